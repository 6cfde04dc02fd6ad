import java.util.ArrayList;
import java.util.List;
import java.util.function.IntUnaryOperator;

/** Edges of each promise: too small, too large, empty, full, going round, and refused calls, which change nothing. */
public final class EdgeTest {
    private static final int NONE = MapsOfNothing.NONE;
    private static final int MIN = Integer.MIN_VALUE;
    private static final int MAX = Integer.MAX_VALUE;
    /** Squares 0, 1, 2 and 6, 7, 8; hill 0 sees four of them, hill 1 the other side, road 0 the first row. */
    private static final String SMALL = "wide 3 2;hill 0 0 1;hill 2 1 1;road 0 0 2 0;sort 1;sort 1";

    private static int promise;

    public static void main(String[] args) {
        newObjects();
        feeds();
        refusedFeeds();
        ends();
        cutBytes();
        landsReplaced();
        landsRefused();
        lawsFull();
        lawsRefused();
        stands();
        noteArguments();
        notesFull();
        squares();
        squaresBeside();
        sums();
        words();
        sees();
        lines();
        hidden();
        noteFacts();
        sets();
        howSure();
        layings();
        apart();
        may();
        odds();
        laying();
        rows();
        news();
        quarrel();
        least();
        careless();
        squaresNobodySpeaksOf();
        allSquaresToldApart();
        trust();
        worst();
        next();
        then();
        plan();
        fresh();
        walk();
        farWalk();
        seed();
        drawn();
        count();
        images();
        imagesKeepAll();
        manyCalls();
        Check.finish("EdgeTest");
    }

    private static void due(String what, long got, long want) {
        Check.due("promise " + promise + ": " + what, got, want);
    }

    /** All that can be asked of an object without changing it. */
    private static String print(MapsOfNothing m) {
        StringBuilder s = new StringBuilder();
        for (int i = 0; i < 11; i++) {
            s.append(m.count(i)).append(' ');
        }
        for (int i = 0; i < 10; i++) {
            s.append(m.sees(i)).append(' ');
            for (int j = 0; j < 5; j++) {
                s.append(m.notes(i, j)).append(' ');
            }
        }
        for (int i = 0; i < 216; i++) {
            s.append(m.square(i / 36, i / 6 % 6, i % 6)).append(' ');
        }
        int all = (1 << m.count(6)) - 1;
        for (int set : new int[] {0, all / 2, all}) {
            s.append(m.layings(set)).append(' ').append(m.laying(set, 1, 0)).append(' ').append(m.least(set)).append(' ');
            s.append(m.plan(set, 1)).append(' ').append(m.fresh(set, 1, 1)).append(' ');
        }
        return s.append(m.hidden()).toString();
    }

    private static void same(String what, String before, MapsOfNothing m) {
        Check.that("promise " + promise + ": all stays behind " + what, before.equals(print(m)));
    }

    private static void refused(MapsOfNothing m, int want, int[] arguments, String name, IntUnaryOperator call) {
        String before = print(m);
        for (int a : arguments) {
            due(name + " of " + a, call.applyAsInt(a), want);
            same(name + " of " + a, before, m);
        }
    }

    private static void newObjects() {
        promise = 1;
        MapsOfNothing one = Check.on(SMALL, "bar 0 x=0");
        one.note(0, 0, 0, 0, 0);
        one.seed(5);
        one.image(0);
        one.feed(1, 2, 3, 4, 5);
        String before = print(one);
        MapsOfNothing other = new MapsOfNothing();
        for (int i = 0; i < 11; i++) {
            due("count of another " + i, other.count(i), i == 8 ? NONE : 0);
        }
        due("no images", other.back(0), NONE);
        due("no law", other.stands(0), -2);
        due("no hidden", other.hidden(), NONE);
        Check.land(other, "wide 2 2");
        Check.law(other, "bar 0 y=0");
        same("another object", before, one);
    }

    private static void feeds() {
        promise = 2;
        MapsOfNothing m = new MapsOfNothing();
        // "wide 2 3;hill 1 2 9;" and "hill 0 1 1;sort 3   "
        due("all five numbers", m.feed(0x77696465, 0x20322033, 0x3b68696c, 0x6c203120, 0x3220393b), 20);
        due("behind these", m.feed(0x68696c6c, 0x20302031, 0x20313b73, 0x6f727420, 0x33202020), 40);
        due("land", m.land(), 2);
        due("rows", m.count(1), 3);
        due("things", m.count(5), 3);
        due("hill", m.square(0, 1, 1), 1);
        // A byte of 128 and more, and one of 0, are bytes too.
        m.feed(0x77696465, 0x20322032, 0x20202020, 0x20202080, 0x20202020);
        due("byte 128", m.land(), Check.fault(15, 0));
        m.feed(0x77696465, 0x20322032, -1, 0, 0);
        due("byte 255", m.land(), Check.fault(8, 0));
        m.feed(0x77696465, 0x20322032, 0x203b0000, 0, 0);
        due("byte 0", m.land(), Check.fault(10, 0));
        due("from the front again", m.feed(MIN, MAX, -1, 0, 1), 20);
    }

    private static void refusedFeeds() {
        promise = 2;
        MapsOfNothing m = new MapsOfNothing();
        String text = "wide 2 2" + " ".repeat(385) + ";sort 4";
        Check.text(m, text);
        due("full", m.count(10), 400);
        refused(m, NONE, new int[] {0, -1, MAX, 0x21212121}, "feed", a -> m.feed(a, a, a, a, a));
        due("the bytes stay", m.land(), 0);
        due("all of them", m.count(5), 4);
        for (int left = 0; left <= 21; left++) {
            Check.text(m, text);
            m.end(400 - left);
            due("with room for " + left, m.feed(0, 0, 0, 0, 0), left < 20 ? NONE : 420 - left);
            due("tape with room for " + left, m.count(10), left < 20 ? 400 - left : 420 - left);
        }
        Check.text(m, text);
        m.end(393);
        m.feed(0x3b3b3b3b, 0, 0, 0, 0);
        due("not a part of the bytes", m.land(), 0);
        due("no things", m.count(5), 0);
    }

    private static void ends() {
        promise = 3;
        MapsOfNothing m = new MapsOfNothing();
        refused(m, NONE, new int[] {1, 20, 400, 401, -1, MIN, MAX}, "end", m::end);
        due("none of none", m.end(0), 0);
        for (int n = 0; n <= 20; n++) {
            m.end(0);
            m.feed(0x77696465, 0x20322032, 0x3b736f72, 0x74203120, 0x20202020);
            due("end " + n, m.end(n), n);
            due("tape", m.count(10), n);
            due("and again", m.end(n), n);
            due("one more", m.end(n + 1), NONE);
            due("tape stays", m.count(10), n);
        }
        m.end(8);
        refused(m, NONE, new int[] {9, 20, -1, -8, MIN, MAX}, "end", m::end);
        // What comes then comes behind the eight: ";sort 3".
        due("behind them", m.feed(0x3b736f72, 0x74203320, 0x20202020, 0x20202020, 0x20202020), 28);
        due("land", m.land(), 0);
        due("things", m.count(5), 3);
        for (int i = 0; i < 20; i++) {
            m.feed(0, 0, 0, 0, 0);
        }
        due("beyond a full one", m.end(401), NONE);
        due("a full one", m.end(400), 400);
    }

    private static int cut(String text, int n, boolean isLaw) {
        MapsOfNothing m = new MapsOfNothing();
        Check.text(m, text);
        due("end of '" + text + "'", m.end(n), n);
        return isLaw ? m.law() : m.land();
    }

    /** The bytes that were cut off are not read, whatever they go on with. */
    private static void cutBytes() {
        promise = 3;
        due("a digit", cut("wide 3 33", 8, false), 0);
        due("a clause", cut("wide 3 3;hill 0 0 1", 8, false), 0);
        due("behind a clause", cut("wide 3 3;hill 0 0 1", 9, false), Check.fault(9, 0));
        due("a blank", cut("wide 3      ", 7, false), Check.fault(7, 0));
        due("a letter", cut("wide 3 3", 3, false), Check.fault(0, 0));
        due("the = of <=", cut("bar 0 x<=1", 8, true), Check.fault(8, 0));
        due("the = of >=", cut("bar 0 x>=1", 8, true), Check.fault(8, 0));
        due("a digit", cut("bar 0 x=12345678", 13, true), 0);
        due("a word", cut("bar 0 woods=1 or x=1", 13, true), 0);
        due("a letter", cut("bar 0 woods=1 or x=1", 10, true), Check.fault(6, 0));
        due("a bracket", cut("bar 0 [x=1]", 10, true), Check.fault(10, 0));
    }

    private static void landsReplaced() {
        promise = 4;
        MapsOfNothing m = new MapsOfNothing();
        StringBuilder text = new StringBuilder("wide 6 6");
        for (int n = 0; n <= 8; n++) {
            due("hills", Check.land(m, text.toString()), n);
            due("the tape is empty", m.count(10), 0);
            text.append(";hill ").append(n % 6).append(' ').append(n / 6).append(" 1");
        }
        due("eight", m.count(2), 8);
        m = Check.on("wide 6 6;wood 1 1 4 4;hill 0 0 9;hill 5 5 9;road 0 0 5 0;road 0 0 0 5;sort 1;sort 1;sort 2");
        m.note(0, 0, 0, 0, 0);
        m.note(0, 1, 1, 2, 1);
        due("another", Check.land(m, "wide 2 3;sort 1"), 0);
        int[] want = {2, 3, 0, 0, 1, 1, 0};
        for (int i = 0; i < want.length; i++) {
            due("count " + i, m.count(i), want[i]);
        }
        due("nothing seen", m.hidden(), 1 | 2 | 64 | 128 | 4096 | 8192);
        due("no hill", m.sees(0), NONE);
        due("no note", m.notes(0, 0), -2);
        due("no set", m.layings(1), NONE);
        due("no wood", m.square(1, 1, 0), 0);
        due("no road", m.square(0, 0, 3), 0);
        due("layings", m.layings(0), 6);
        MapsOfNothing again = Check.on(SMALL);
        again.note(0, 0, 0, 0, 0);
        due("the same once more", Check.land(again, SMALL), 2);
        due("has no notes", again.count(6), 0);
        due("and they begin at 0", again.note(1, 0, 0, 0, 0), 0);
    }

    private static void landsRefused() {
        promise = 4;
        MapsOfNothing m = Check.on(SMALL, "bar 0 x=0");
        m.note(0, 0, 0, 0, 0);
        m.note(4, 1, 0, 1, -1);
        m.seed(77);
        m.image(2);
        String before = print(m);
        String[] texts = {"", " ", "wide 6 6;", "wide 6 7", "wide 6 6;wood 0 0 5 5;hill 0 0 1;sort 4;sort 1", "wide 2 2;road 0 0 1 1"};
        int[] faults = {Check.fault(0, 0), Check.fault(1, 0), Check.fault(9, 0), Check.fault(7, 1), Check.fault(45, 5),
            Check.fault(14, 5)};
        for (int i = 0; i < texts.length; i++) {
            due("'" + texts[i] + "'", Check.land(m, texts[i]), faults[i]);
            same("land '" + texts[i] + "'", before, m);
        }
        due("images, too", m.back(2), 2);
        same("going back", before, m);
        MapsOfNothing bare = new MapsOfNothing();
        due("of an empty tape", bare.land(), -3);
        due("no land yet", bare.hidden(), NONE);
    }

    private static void lawsFull() {
        promise = 5;
        MapsOfNothing m = Check.on("wide 3 2;sort 1");
        for (int i = 0; i < 4; i++) {
            due("law " + i, Check.law(m, "bar 0 x+y*3=" + i), i);
            due("tape", m.count(10), 0);
            due("laws", m.count(7), i + 1);
            due("none stands by itself", m.count(8), NONE);
        }
        for (String text : new String[] {"", "bar 0 x=1", "nonsense", "wide 2 2;sort 2"}) {
            Check.text(m, text);
            String before = print(m);
            due("a fifth", m.law(), NONE);
            same("a fifth law", before, m);
        }
        due("the tape was kept", m.land(), 0);
        due("as it was", m.count(5), 2);
        Check.land(m, "wide 3 2;sort 1");
        for (int i = 0; i < 4; i++) {
            m.stands(i);
            due("law " + i, m.square(i % 3, i / 3, 5), 1);
            due("and no other square", m.layings(0), 5);
        }
    }

    private static void lawsRefused() {
        promise = 5;
        MapsOfNothing m = Check.on("wide 3 2;sort 1;sort 1", "bar 0 x=0;apart 0 1 2");
        String before = print(m);
        due("of an empty tape", m.law(), -3);
        same("an empty law", before, m);
        due("a fault behind good clauses", Check.law(m, "bar 1 y=0;apart 0 1 5;bar 0 1=1;bar"), Check.fault(35, 0));
        same("a law with a fault", before, m);
        due("the next has the number", Check.law(m, "bar 1 x=2"), 1);
        m.stands(1);
        due("and nothing of the one refused", m.layings(0), 20);
        due("its own", m.square(2, 0, 5), 2);
        due("nothing else", m.square(1, 0, 5), 0);
        // However many were refused, and however long they were.
        String wrong = "apart 0 1 5;bar 0 " + "x+".repeat(50) + "1=1 or 1=1;bar 0";
        for (int i = 0; i < 20; i++) {
            due("refused", Check.law(m, wrong), Check.fault(wrong.length(), 0));
        }
        due("one with not", Check.law(m, "bar 0 not not x+1+1=2 and not [y=1 or not y>1];bar"), Check.fault(50, 0));
        due("the third", Check.law(m, "bar 0 x+1+1=2 and not [y=1 or y>1]"), 2);
        m.stands(2);
        due("it stands", m.layings(0), 25);
        due("on its square", m.square(0, 0, 5), 1);
        due("but not below", m.square(0, 1, 5), 0);
        due("a not behind one sign", Check.law(m, "bar 0 not x=1;bar"), Check.fault(17, 0));
        due("the fourth, as long as that sign", Check.law(m, "bar 0 x=1"), 3);
        m.stands(3);
        due("without the not", m.square(1, 0, 5), 1);
        due("without the not", m.square(2, 0, 5), 0);
    }

    private static void stands() {
        promise = 6;
        MapsOfNothing m = Check.on("wide 3 2;sort 1");
        refused(m, -2, new int[] {0, 1, 3, 4, -2, MIN, MAX}, "stands", m::stands);
        Check.law(m, "bar 0 x=0");
        Check.law(m, "bar 0 y=0");
        due("none stood", m.stands(1), NONE);
        due("three squares", m.layings(0), 3);
        refused(m, -2, new int[] {2, 3, 4, -2, MIN, MAX}, "stands", m::stands);
        due("the second stood", m.stands(0), 1);
        due("four squares", m.layings(0), 4);
        due("the first stood", m.stands(NONE), 0);
        due("none stood", m.stands(NONE), NONE);
        due("all squares", m.layings(0), 6);
        MapsOfNothing bare = new MapsOfNothing();
        Check.law(bare, "bar 0 x=0");
        due("without a land", bare.stands(0), NONE);
        Check.land(bare, "wide 3 2;sort 1");
        due("it stands then", bare.layings(0), 4);
    }

    private static void noteArguments() {
        promise = 7;
        MapsOfNothing m = Check.on("wide 3 2;hill 0 0 1;hill 2 1 1;hill 1 1 1;road 0 0 2 0;road 0 0 0 1;sort 1;sort 0;sort 1");
        refused(m, NONE, new int[] {-1, 6, 7, MIN, MAX}, "surveyor", a -> m.note(a, 0, 0, 0, 0));
        refused(m, NONE, new int[] {-1, 2, 3, MIN, MAX}, "kind", a -> m.note(0, a, 0, 0, 0));
        refused(m, NONE, new int[] {-1, 3, 7, 8, MIN, MAX}, "hill", a -> m.note(0, 0, a, 0, 0));
        refused(m, NONE, new int[] {-1, 2, 3, 5, 6, MIN, MAX}, "road", a -> m.note(0, 1, a, 0, 0));
        refused(m, NONE, new int[] {-1, 3, 4, MIN, MAX}, "sort", a -> m.note(0, 0, 0, a, 0));
        refused(m, NONE, new int[] {-2, 4, 5, MIN, MAX}, "sure", a -> m.note(0, 0, 0, 0, a));
        due("the first ones", m.note(0, 0, 0, 0, -1), 0);
        due("the last ones", m.note(5, 0, 2, 2, 3), 1);
        due("the last road", m.note(5, 1, 1, 2, 3), 2);
        due("of a sort of no things", m.note(1, 1, 0, 1, 0), 3);
        for (int sure = -1; sure <= 3; sure++) {
            due("sure", m.note(0, 0, 0, 0, sure), 5 + sure);
        }
        MapsOfNothing flat = Check.on("wide 3 2;sort 1");
        due("no hills", flat.note(0, 0, 0, 0, 0), NONE);
        due("no roads", flat.note(0, 1, 0, 0, 0), NONE);
        MapsOfNothing nothing = Check.on("wide 3 2;hill 0 0 1;road 0 0 0 0");
        due("no sorts", nothing.note(0, 0, 0, 0, 0), NONE);
        due("no sorts", nothing.note(0, 1, 0, 0, 0), NONE);
        due("no land", new MapsOfNothing().note(0, 0, 0, 0, 0), NONE);
    }

    private static void notesFull() {
        promise = 7;
        MapsOfNothing m = Check.on(SMALL);
        for (int i = 0; i < 10; i++) {
            due("note " + i, m.note(i % 6, 0, 0, 0, 0), i);
        }
        refused(m, NONE, new int[] {0, 1, 5, 6, -1}, "an eleventh", a -> m.note(a, 0, 0, 0, 0));
        due("the last one", m.notes(9, 0), 3);
        due("all of them", m.layings(1023), 10);
        Check.land(m, SMALL);
        due("from 0 again", m.note(0, 0, 0, 0, 0), 0);
    }

    private static void squares() {
        promise = 8;
        MapsOfNothing m = Check.on("wide 4 2;hill 3 1 1;sort 1");
        for (int what = 0; what < 6; what++) {
            int w = what;
            refused(m, NONE, new int[] {-1, 4, 5, 6, MIN, MAX}, "x", a -> m.square(a, 0, w));
            refused(m, NONE, new int[] {-1, 2, 3, 5, 6, MIN, MAX}, "y", a -> m.square(0, a, w));
            due("no land", new MapsOfNothing().square(0, 0, what), NONE);
        }
        refused(m, NONE, new int[] {-1, 6, 7, MIN, MAX}, "what", a -> m.square(0, 0, a));
        due("the last hill", m.square(3, 1, 1), 0);
        due("the first square", m.square(0, 0, 1), NONE);
        MapsOfNothing full = Check.on("wide 6 6;hill 0 0 9;hill 1 0 9;hill 2 0 9;hill 3 0 9;hill 4 0 9;hill 5 0 9;hill 0 1 9;hill 5 5 9"
            + ";road 3 0 3 5;road 0 3 5 3;road 3 3 3 3;road 3 3 5 3;road 3 1 3 4;road 2 3 3 3");
        due("the last hill", full.square(5, 5, 1), 7);
        due("eight hills see it", full.square(3, 3, 2), 8);
        due("six roads", full.square(3, 3, 3), 6);
        due("no wood", full.square(3, 3, 4), 0);
    }

    private static void squaresBeside() {
        promise = 8;
        MapsOfNothing m = Check.on("wide 3 4;wood 0 0 2 3;hill 1 1 1");
        due("eight beside a hill", m.square(1, 1, 4), 8);
        due("seven beside a wood", m.square(1, 2, 4), 7);
        due("two in the corner, as the hill is none", m.square(0, 0, 4), 2);
        due("three in the last corner", m.square(2, 3, 4), 3);
        due("four at the side", m.square(0, 1, 4), 4);
        due("the hill is no wood", m.square(1, 1, 0), 0);
        MapsOfNothing wide = Check.on("wide 6 6;wood 5 1 5 1;wood 0 2 0 2");
        due("not round the side", wide.square(0, 2, 4), 0);
        due("not round the side", wide.square(5, 1, 4), 0);
        due("beside it", wide.square(4, 0, 4), 1);
        due("beside it", wide.square(1, 3, 4), 1);
        MapsOfNothing bars = Check.on("wide 2 2;wood 0 0 0 0;sort 1;sort 0;sort 1;sort 1",
            "bar 0 x=0 and y=0;bar 3 1=1;bar 1 1=1");
        due("bars on a wood, and of a sort of no things", bars.square(0, 0, 5), 1 | 2 | 8);
        due("elsewhere", bars.square(1, 1, 5), 2 | 8);
        Check.land(bars, "wide 2 2;sort 1");
        due("told ones alone", bars.square(0, 0, 5), 1);
        Check.land(bars, "wide 2 2");
        due("no sorts", bars.square(0, 0, 5), 0);
    }

    private static void sum(String land, String test, boolean is) {
        due("test " + test, Check.on(land + ";sort 1", "bar 0 " + test).square(0, 0, 5), is ? 1 : 0);
    }

    /** Sums go round in 64 bits; / is towards 0, and 0 by 0. */
    private static void sums() {
        promise = 8;
        String land = "wide 2 6";
        String half = "65536*65536*65536*32768";
        sum(land, half + "<0", true);
        sum(land, half + "-1>0", true);
        sum(land, "0-" + half + "=" + half, true);
        sum(land, half + "+" + half + "=0", true);
        sum(land, half + "*2=0", true);
        sum(land, "65536*65536=0", false);
        sum(land, half + "/3*3=" + half + "+2", true);
        sum(land, half + "/32768/65536/65536+65536=0", true);
        sum(land, half + "/99999*99999-" + half + "<99999", true);
        sum(land, half + "/99999*99999-" + half + ">=0", true);
        sum(land, "7/0=0", true);
        sum(land, "0/0=0", true);
        sum(land, "7/x=0", true);
        sum(land, "7/x+5=5", true);
        sum(land, half + "/x=0", true);
        sum(land, "1/2=0", true);
        sum(land, "99999/99999=1", true);
        sum(land, "99998/99999=0", true);
        sum(land, "2-3<0", true);
        sum(land, "1-2-3=0-4", true);
        sum(land, "8/4/2=1", true);
        sum(land, "8/4*2=4", true);
        sum(land, "2+3*4-6/2=11", true);
        sum(land, "5<5", false);
        sum(land, "4<5", true);
        sum(land, "5<=5", true);
        sum(land, "6<=5", false);
        sum(land, "5=5", true);
        sum(land, "5>=5", true);
        sum(land, "4>=5", false);
        sum(land, "5>5", false);
        sum(land, "6>5", true);
        sum(land, "00007=7", true);
        sum(land, "99999+1=10*10000", true);
        sum(land, "not 1=1 or 1=1", true);
        sum(land, "not [1=1 or 1=1]", false);
        sum(land, "1=2 and 1=2 or 1=1", true);
        sum(land, "1=1 or 1=2 and 1=2", true);
        sum(land, "1=2 and [1=2 or 1=1]", false);
        sum(land, "not ".repeat(10) + "1=1", true);
        sum(land, "not ".repeat(9) + "1=1", false);
        sum(land, "[".repeat(10) + "1=1" + "]".repeat(10) + " and 1=2", false);
        edges();
    }

    private static void words() {
        promise = 8;
        String land = "wide 6 6;hill 0 0 9;hill 1 0 9;hill 2 0 9;hill 3 0 9;hill 4 0 9;hill 5 0 9;hill 0 1 9;hill 5 5 9"
            + ";road 3 0 3 5;road 0 3 5 3;road 3 3 3 3;road 3 3 5 3;road 3 1 3 4;road 2 3 3 3;sort 1";
        due("all hills see it", Check.on(land, "bar 0 seen=8").square(3, 3, 5), 1);
        due("not more", Check.on(land, "bar 0 seen>8").square(3, 3, 5), 0);
        due("of all roads", Check.on(land, "bar 0 road=6").layings(0), 35);
        due("of no roads", Check.on(land, "bar 0 road=0").layings(0), 11);
        due("on the first hill", Check.on(land, "bar 0 hill=1").square(0, 0, 5), 1);
        due("on the last hill", Check.on(land, "bar 0 hill=1").square(5, 5, 5), 1);
        due("on hills alone", Check.on(land, "bar 0 hill=0").layings(0), 8);
        due("not beyond 1", Check.on(land, "bar 0 hill>1 or hill<0").layings(0), 36);
        String wood = "wide 3 4;wood 0 0 2 3;hill 1 1 1;sort 1";
        due("all eight beside it", Check.on(wood, "bar 0 woods=8").layings(0), 0);
        due("not itself", Check.on(wood, "bar 0 woods=7").square(1, 2, 5), 1);
        due("the first column", Check.on(land, "bar 0 x>0").layings(0), 6);
        due("the last column", Check.on(land, "bar 0 x<5").layings(0), 6);
        due("the first row", Check.on(land, "bar 0 y>0").layings(0), 6);
        due("the last row", Check.on(land, "bar 0 y<5").layings(0), 6);
    }

    private static void edges() {
        int[] due = {0, 0, 0, 0, 0, 0, 0, 1, 1, 1, 1, 0, 0, 1, 2, 2, 1, 0, 0, 1, 1, 1, 1, 0, 0, 0, 0, 0, 0, 0};
        for (int n = 0; n < 4; n++) {
            MapsOfNothing m = Check.on("wide 6 5;sort 1", "bar 0 edge=" + n);
            for (int s = 0; s < due.length; s++) {
                due("edge " + n + " on " + s, m.square(s % 6, s / 6, 5), due[s] == n ? 1 : 0);
            }
        }
        MapsOfNothing last = Check.on("wide 6 6;sort 1", "bar 0 x=5 and y=5");
        due("the last square", last.square(5, 5, 5), 1);
        due("but one", last.layings(0), 35);
    }

    private static void sees() {
        promise = 9;
        MapsOfNothing m = Check.on("wide 6 6;hill 0 0 1;hill 0 5 5;hill 5 5 4;hill 3 3 2;hill 5 0 9");
        long[] byHill = {0, 0, 0, 0, 0};
        int[][] at = {{0, 0, 1}, {0, 5, 5}, {5, 5, 4}, {3, 3, 2}, {5, 0, 9}};
        for (int h = 0; h < 5; h++) {
            for (int s = 0; s < 36; s++) {
                int n = Math.max(Math.abs(s % 6 - at[h][0]), Math.abs(s / 6 - at[h][1]));
                byHill[h] |= n <= at[h][2] ? 1L << s : 0;
            }
            due("as far as its far " + h, m.sees(h), byHill[h]);
        }
        for (int hill : new int[] {-1, 5, 7, 8, MIN, MAX}) {
            due("no hill " + hill, m.sees(hill), NONE);
        }
        due("no land", new MapsOfNothing().sees(0), NONE);
        due("no hills", Check.on("wide 2 2").sees(0), NONE);
        MapsOfNothing shut = Check.on("wide 5 5;wood 0 0 4 4;hill 2 2 9");
        due("its own square, and the woods beside", shut.sees(0), 7L << 7 | 7L << 13 | 7L << 19);
        MapsOfNothing eight = Check.on("wide 6 6;hill 0 0 1;hill 1 0 1;hill 2 0 1;hill 3 0 1;hill 4 0 1;hill 5 0 1;hill 0 1 1;hill 5 5 1");
        due("the eighth", eight.sees(7), 1L << 28 | 1L << 29 | 1L << 34 | 1L << 35);
        due("a ninth", eight.sees(8), NONE);
        due("hills do not hide", eight.sees(1), 7L | 7L << 6);
    }

    private static void line(String hill, int x, int y, String wood, boolean seen) {
        MapsOfNothing m = Check.on("wide 6 6;hill " + hill + " 9;wood " + wood);
        due("from " + hill + " to " + x + " " + y + " by " + wood, m.sees(0) >> 6 * y + x & 1, seen ? 1 : 0);
    }

    /** Of the squares between: halves and what is below 0 go downwards. */
    private static void lines() {
        promise = 9;
        line("0 0", 2, 1, "1 1 1 1", false);
        line("0 0", 2, 1, "1 0 1 0", true);
        line("2 1", 0, 0, "1 1 1 1", false);
        line("2 1", 0, 0, "1 0 1 0", true);
        line("0 0", 1, 2, "1 1 1 1", false);
        line("0 0", 1, 2, "0 1 0 1", true);
        line("1 2", 0, 0, "1 1 1 1", false);
        line("1 2", 0, 0, "0 1 0 1", true);
        // From (0, 1) to (3, 0): 1 by 6 is 0, and -1 by 6 is -1, so (1, 1) and (2, 0).
        line("0 1", 3, 0, "1 1 1 1", false);
        line("0 1", 3, 0, "2 0 2 0", false);
        line("0 1", 3, 0, "2 1 2 1", true);
        line("0 1", 3, 0, "1 0 1 0", true);
        // From (0, 2) to (3, 0): -1 by 6 and -5 by 6 are -1, so (1, 1) and (2, 1).
        line("0 2", 3, 0, "1 1 1 1", false);
        line("0 2", 3, 0, "2 1 2 1", false);
        line("0 2", 3, 0, "1 2 1 2", true);
        line("0 2", 3, 0, "2 0 2 0", true);
        // From (5, 5) to (0, 3): n is 5; y goes by 1, -3, -7, -11 by 10: 0, -1, -1, -2.
        line("5 5", 0, 3, "4 5 4 5", false);
        line("5 5", 0, 3, "3 4 3 4", false);
        line("5 5", 0, 3, "2 4 2 4", false);
        line("5 5", 0, 3, "1 3 1 3", false);
        line("5 5", 0, 3, "3 5 3 5", true);
        line("5 5", 0, 3, "1 4 1 4", true);
        line("5 5", 0, 3, "0 3 0 3", true);
        line("0 0", 5, 5, "4 4 4 4", false);
        line("0 0", 5, 5, "4 5 4 5", true);
        line("0 0", 5, 0, "1 0 1 0", false);
        line("0 0", 1, 0, "1 0 1 0", true);
        line("0 0", 2, 0, "1 0 1 0", false);
        line("3 0", 3, 5, "3 4 3 4", false);
        line("3 5", 3, 0, "3 1 3 1", false);
        line("3 5", 3, 0, "3 0 3 0", true);
        // A hill in the wood is none, so one sees over it.
        MapsOfNothing m = Check.on("wide 6 2;hill 0 0 9;wood 1 0 4 0;hill 1 0 1;hill 2 0 1");
        due("as far as the first wood", m.sees(0) & 63, 15);
    }

    private static void hidden() {
        promise = 10;
        due("without a land", new MapsOfNothing().hidden(), NONE);
        due("all of the greatest land", Check.on("wide 6 6").hidden(), (1L << 36) - 1);
        due("all of the least land", Check.on("wide 2 2").hidden(), 1 | 2 | 64 | 128);
        due("none", Check.on("wide 6 6;hill 0 0 5").hidden(), 0);
        due("the last row and column", Check.on("wide 6 6;hill 0 0 4").hidden(), 63L << 30 | 0x820820820L);
        due("a wood is hidden, too", Check.on("wide 3 2;hill 0 0 1;wood 2 0 2 0").hidden(), 4 | 256);
        due("by two hills", Check.on("wide 3 2;hill 0 0 1;hill 2 0 1").hidden(), 0);
    }

    private static void noteFacts() {
        promise = 11;
        MapsOfNothing m = Check.on(SMALL);
        due("no note yet", m.notes(0, 0), -2);
        for (int i = 0; i < 10; i++) {
            m.note(i % 6, i % 2, i % 2 == 0 ? i / 2 % 2 : 0, i / 3 % 2, i % 5 - 1);
        }
        for (int i = 0; i < 10; i++) {
            int[] want = {i % 6, i % 2, i % 2 == 0 ? i / 2 % 2 : 0, i / 3 % 2, i % 5 - 1};
            for (int j = 0; j < 5; j++) {
                due("note " + i + " " + j, m.notes(i, j), want[j]);
            }
        }
        for (int what = 0; what < 5; what++) {
            int w = what;
            refused(m, -2, new int[] {-1, 10, 11, MIN, MAX}, "note", a -> m.notes(a, w));
        }
        refused(m, -2, new int[] {-1, 5, 6, MIN, MAX}, "what", a -> m.notes(0, a));
        refused(m, -2, new int[] {-1, 5, MIN, MAX}, "what", a -> m.notes(9, a));
        due("without a land", new MapsOfNothing().notes(0, 0), -2);
    }

    private static List<IntUnaryOperator> calls(MapsOfNothing m) {
        List<IntUnaryOperator> calls = new ArrayList<>();
        calls.add(m::layings);
        calls.add(s -> m.may(s, 0, 0, 0));
        calls.add(s -> m.odds(s, 0, 0, 0, 0));
        calls.add(s -> m.odds(s, 0, 0, 0, 1));
        calls.add(s -> m.laying(s, 0, 0));
        calls.add(s -> m.rows(s, 0, 0, 0));
        calls.add(s -> m.news(s, 0));
        calls.add(m::least);
        calls.add(m::careless);
        calls.add(m::trust);
        calls.add(s -> m.worst(s, 0));
        calls.add(s -> m.next(s, 0));
        calls.add(s -> m.next(s, 1));
        calls.add(s -> m.then(s, 0, 0, 0));
        calls.add(s -> m.then(s, 0, 0, 1));
        calls.add(s -> m.plan(s, 0));
        calls.add(s -> m.plan(s, 1));
        calls.add(s -> m.fresh(s, 1, 0));
        calls.add(s -> m.fresh(s, 1, 1));
        calls.add(m::drawn);
        return calls;
    }

    /** A set of notes is one of notes that are there, for each call that takes one. */
    private static void sets() {
        MapsOfNothing m = Check.on(SMALL);
        for (int n = 0; n <= 10; n++) {
            int first = 12;
            for (IntUnaryOperator call : calls(m)) {
                promise = first++;
                refused(m, NONE, new int[] {1 << n, 1 << n | 1, 1 << 10, 1 << 30, -1, -2, MIN, MIN | 1, MAX}, "call", call);
                if (n > 0) {
                    Check.that("the full set of " + n, call.applyAsInt((1 << n) - 1) != NONE);
                }
            }
            m.note(n % 6, 0, 0, 0, 3);
        }
        MapsOfNothing bare = new MapsOfNothing();
        for (IntUnaryOperator call : calls(bare)) {
            refused(bare, NONE, new int[] {0, 1, -1, 1023, 1024, MIN, MAX}, "without a land", call);
        }
    }

    private static void howSure() {
        promise = 12;
        MapsOfNothing m = Check.on("wide 3 2;hill 0 0 1;road 0 0 2 0;sort 4");
        int[] fromHill = {15, 0, 0, 6, 14};
        int[] alongRoad = {15, 0, 3, 12, 15};
        for (int sure = -1; sure <= 3; sure++) {
            int one = m.note(0, 0, 0, 0, sure);
            int other = m.note(0, 1, 0, 0, sure);
            due("from a hill, sure " + sure, m.layings(1 << one), fromHill[sure + 1]);
            due("along a road, sure " + sure, m.layings(1 << other), alongRoad[sure + 1]);
        }
        due("at least one and not more than one", m.layings(1 << 1 | 1 << 5), 3);
        due("all of them", m.layings(1023), 0);
        MapsOfNothing two = Check.on("wide 3 2;hill 0 0 1;sort 2;sort 0");
        two.note(0, 0, 0, 0, 2);
        two.note(0, 0, 0, 0, 3);
        two.note(0, 0, 0, 1, 3);
        two.note(0, 0, 0, 1, 0);
        two.note(0, 0, 0, 1, -1);
        due("not more than there are", two.layings(15), 15);
        due("at least one of none", two.layings(16), 0);
    }

    private static void layings() {
        promise = 12;
        due("one thing on the least land", Check.on("wide 2 2;sort 1").layings(0), 4);
        due("as many as squares", Check.on("wide 2 2;sort 4").layings(0), 1);
        due("as many unlike ones", Check.on("wide 2 2;sort 1;sort 1;sort 1;sort 1").layings(0), 24);
        due("one too many", Check.on("wide 2 2;wood 1 1 1 1;sort 4").layings(0), 0);
        due("one too many of two sorts", Check.on("wide 2 2;wood 1 1 1 1;sort 2;sort 2").layings(0), 0);
        due("just so many", Check.on("wide 2 2;wood 1 1 1 1;sort 3").layings(0), 1);
        due("all is wood", Check.on("wide 2 2;wood 0 0 1 1;sort 1").layings(0), 0);
        due("all is wood, no things", Check.on("wide 2 2;wood 0 0 1 1;sort 0").layings(0), 1);
        due("no sorts", Check.on("wide 2 2").layings(0), 1);
        due("the most", Check.on("wide 6 6;sort 1;sort 1;sort 1;sort 1").layings(0), 1413720);
        due("three and one", Check.on("wide 6 6;sort 3;sort 1").layings(0), 7140 * 33);
        due("one and three", Check.on("wide 6 6;sort 1;sort 0;sort 3").layings(0), 36 * 6545);
    }

    private static void apart() {
        promise = 12;
        int[] alike = {0, 15, 4, 0, 0, 0};
        int[] unlike = {0, 30, 8, 0, 0, 0};
        for (int d = 1; d <= 5; d++) {
            due("alike " + d, Check.on("wide 3 2;sort 2", "apart 0 0 " + d).layings(0), alike[d]);
            due("unlike " + d, Check.on("wide 3 2;sort 1;sort 1", "apart 0 1 " + d).layings(0), unlike[d]);
            due("turned " + d, Check.on("wide 3 2;sort 1;sort 1", "apart 1 0 " + d).layings(0), unlike[d]);
        }
        String eleven = "apart 0 1 1" + ";apart 1 1 5".repeat(10);
        due("the twelfth", Check.on("wide 3 2;sort 2", eleven + ";apart 0 0 2").layings(0), 4);
        due("the first of twelve", Check.on("wide 3 2;sort 2", "apart 0 0 2" + ";apart 1 1 5".repeat(11)).layings(0), 4);
        due("the farthest", Check.on("wide 6 2;sort 2", "apart 0 0 5").layings(0), 4);
        due("the farthest downwards", Check.on("wide 2 6;sort 2", "apart 0 0 5").layings(0), 4);
        due("four in the corners", Check.on("wide 6 6;sort 4", "apart 0 0 5").layings(0), 1);
        due("one thing alone", Check.on("wide 2 2;sort 1", "apart 0 0 5").layings(0), 4);
        due("a thing is not apart from itself", Check.on("wide 2 2;sort 1;sort 1", "apart 0 0 5;apart 1 1 5").layings(0), 12);
        due("last sorts", Check.on("wide 3 2;sort 0;sort 0;sort 1;sort 1", "apart 3 2 2").layings(0), 8);
        due("sorts not told", Check.on("wide 3 2;sort 1;sort 1", "apart 0 2 5;apart 3 1 5;apart 2 3 5").layings(0), 30);
        due("told, but no things", Check.on("wide 3 2;sort 1;sort 0", "apart 0 1 5;bar 1 1=1").layings(0), 6);
    }

    private static void may() {
        promise = 13;
        MapsOfNothing m = Check.on("wide 3 2;hill 0 0 1;hill 2 0 1;sort 1;sort 0");
        refused(m, NONE, new int[] {-1, 3, 5, 6, MIN, MAX}, "x", a -> m.may(0, a, 0, 0));
        refused(m, NONE, new int[] {-1, 2, 5, 6, MIN, MAX}, "y", a -> m.may(0, 0, a, 0));
        refused(m, NONE, new int[] {-1, 2, 3, 4, MIN, MAX}, "sort", a -> m.may(0, 0, 0, a));
        due("some, on the last square", m.may(0, 2, 1, 0), 1);
        due("of a sort of no things", m.may(0, 2, 1, 1), 0);
        m.note(0, 0, 0, 0, 0);
        m.note(0, 0, 1, 0, 0);
        due("some of two", m.may(1, 2, 1, 0), 1);
        due("none fits", m.may(3, 2, 1, 0), 0);
        MapsOfNothing full = Check.on("wide 2 2;sort 4");
        due("all", full.may(0, 1, 1, 0), 2);
        due("all", full.may(0, 0, 0, 0), 2);
        due("no sorts", Check.on("wide 2 2").may(0, 0, 0, 0), NONE);
    }

    private static void odds() {
        promise = 14;
        MapsOfNothing m = Check.on("wide 3 2;hill 0 0 1;hill 2 0 1;sort 4;sort 0");
        refused(m, NONE, new int[] {-1, 3, 6, MIN, MAX}, "x", a -> m.odds(0, a, 0, 0, 0));
        refused(m, NONE, new int[] {-1, 2, 6, MIN, MAX}, "y", a -> m.odds(0, 0, a, 0, 0));
        refused(m, NONE, new int[] {-1, 2, 4, MIN, MAX}, "sort", a -> m.odds(0, 0, 0, a, 1));
        refused(m, NONE, new int[] {-1, 2, 3, MIN, MAX}, "part", a -> m.odds(0, 0, 0, 0, a));
        due("10 of 15, above", m.odds(0, 2, 1, 0, 0), 2);
        due("10 of 15, below", m.odds(0, 2, 1, 0, 1), 3);
        due("0 of 15, above", m.odds(0, 2, 1, 1, 0), 0);
        due("0 of 15, below", m.odds(0, 2, 1, 1, 1), 1);
        m.note(0, 0, 0, 0, 0);
        due("none fits, above", m.odds(1, 0, 0, 0, 0), 0);
        due("none fits, below", m.odds(1, 0, 0, 0, 1), 1);
        MapsOfNothing full = Check.on("wide 2 2;sort 4");
        due("all, above", full.odds(0, 1, 1, 0, 0), 1);
        due("all, below", full.odds(0, 1, 1, 0, 1), 1);
        MapsOfNothing wide = Check.on("wide 6 6;sort 1;sort 1;sort 1;sort 1");
        due("of the most, above", wide.odds(0, 5, 5, 3, 0), 1);
        due("of the most, below", wide.odds(0, 5, 5, 3, 1), 36);
        due("no sorts", Check.on("wide 2 2").odds(0, 0, 0, 0, 0), NONE);
    }

    private static void laying() {
        promise = 15;
        MapsOfNothing m = Check.on("wide 6 6;sort 1;sort 1;sort 1;sort 1");
        for (int k = 0; k < 4; k++) {
            int kk = k;
            due("the first", m.laying(0, 0, k), k);
            due("the last", m.laying(0, 1413719, k), 35 - k);
            refused(m, -2, new int[] {1413720, MAX}, "beyond the last", a -> m.laying(0, a, kk));
            refused(m, NONE, new int[] {-1, MIN}, "below", a -> m.laying(0, a, kk));
        }
        refused(m, NONE, new int[] {-1, 4, 5, MIN, MAX}, "k", a -> m.laying(0, 0, a));
        refused(m, NONE, new int[] {-1, 4, MIN, MAX}, "k beyond the last", a -> m.laying(0, 1413720, a));
        MapsOfNothing alike = Check.on("wide 6 6;sort 4");
        for (int k = 0; k < 4; k++) {
            due("the first", alike.laying(0, 0, k), k);
            due("the last", alike.laying(0, 58904, k), 32 + k);
            due("beyond", alike.laying(0, 58905, k), -2);
        }
        MapsOfNothing one = Check.on("wide 2 2;hill 0 0 1;sort 0;sort 1");
        one.note(0, 0, 0, 1, 0);
        due("the last of four", one.laying(0, 3, 0), 7);
        due("one beyond", one.laying(0, 4, 0), -2);
        due("a second thing", one.laying(0, 3, 1), -2);
        due("a fourth thing", one.laying(0, 3, 3), -2);
        due("a fifth thing", one.laying(0, 3, 4), NONE);
        due("none fits", one.laying(1, 0, 0), -2);
        due("no things", Check.on("wide 2 2").laying(0, 0, 0), -2);
        due("no things, the next", Check.on("wide 2 2;sort 0").laying(0, 1, 0), -2);
        due("no things, k", Check.on("wide 2 2;sort 0").laying(0, 0, 4), NONE);
        // Those of the first SORT's things are in order by their numbers, whatever the second one's are.
        MapsOfNothing two = Check.on("wide 2 2;sort 2;sort 1");
        int[][] want = {{0, 1, 6}, {0, 1, 7}, {0, 6, 1}, {0, 6, 7}, {0, 7, 1}, {0, 7, 6}, {1, 6, 0}, {1, 6, 7}, {1, 7, 0},
            {1, 7, 6}, {6, 7, 0}, {6, 7, 1}};
        for (int i = 0; i < want.length; i++) {
            for (int k = 0; k < 3; k++) {
                due("place " + i + " " + k, two.laying(0, i, k), want[i][k]);
            }
        }
        due("beyond", two.laying(0, 12, 0), -2);
    }

    private static void rows() {
        promise = 16;
        MapsOfNothing m = Check.on("wide 4 2;hill 0 0 9;sort 4;sort 0");
        int[] want = {1, 16, 36, 16, 1};
        for (int n = 0; n <= 4; n++) {
            int nn = n;
            due("first row " + n, m.rows(0, 0, 0, n), want[n]);
            due("last row " + n, m.rows(0, 0, 1, n), want[4 - n]);
            due("of no things " + n, m.rows(0, 1, 1, n), n == 0 ? 70 : 0);
            refused(m, NONE, new int[] {-1, 2, 5, 6, MIN, MAX}, "row", a -> m.rows(0, 0, a, nn));
            refused(m, NONE, new int[] {-1, 2, 4, MIN, MAX}, "sort", a -> m.rows(0, a, 0, nn));
        }
        refused(m, NONE, new int[] {-1, 5, 6, MIN, MAX}, "n", a -> m.rows(0, 0, 0, a));
        m.note(0, 0, 0, 0, 0);
        due("none fits", m.rows(1, 0, 0, 0), 0);
        MapsOfNothing wide = Check.on("wide 6 6;sort 1");
        MapsOfNothing two = Check.on("wide 6 2;sort 2");
        for (int y = 0; y < 6; y++) {
            due("one of six rows " + y, wide.rows(0, 0, y, 1), 6);
            due("not in one of six rows " + y, wide.rows(0, 0, y, 0), 30);
        }
        due("both of twelve", two.rows(0, 0, 0, 2), 15);
        due("one of twelve", two.rows(0, 0, 0, 1), 36);
        MapsOfNothing wood = Check.on("wide 3 3;wood 0 0 2 0;sort 2");
        due("a row of wood", wood.rows(0, 0, 0, 0), 15);
        due("a row of wood", wood.rows(0, 0, 0, 1), 0);
        due("the last row", wood.rows(0, 0, 2, 2), 3);
    }

    private static void news() {
        promise = 17;
        MapsOfNothing m = Check.on("wide 3 2;hill 0 0 1;hill 2 0 1;hill 1 0 1;sort 1");
        m.note(0, 0, 0, 0, 0);
        m.note(0, 0, 1, 0, 0);
        m.note(0, 0, 2, 0, 0);
        m.note(0, 0, 2, 0, -1);
        refused(m, NONE, new int[] {-1, 1, 2, 3, 4, 10, 31, 32, MIN, MAX}, "note", a -> m.news(1, a));
        refused(m, NONE, new int[] {0, 1, 3}, "the empty set", a -> m.news(0, a));
        due("alone", m.news(1, 0), 1);
        due("the last", m.news(8, 3), 0);
        due("with another", m.news(3, 1), 1);
        due("none fits, and none without it", m.news(7, 0), 0);
        due("none fits without it either", m.news(7, 2), 0);
        due("told by the other", m.news(5, 0), 0);
        due("it alone shuts all out", m.news(5, 2), 1);
        due("by one more", m.news(9, 0), 1);
    }

    private static void quarrel() {
        promise = 18;
        MapsOfNothing m = Check.on("wide 3 2;hill 0 0 1;hill 2 0 1;sort 1;sort 0");
        m.note(0, 0, 0, 0, 0);
        m.note(0, 0, 1, 0, 0);
        m.note(0, 0, 0, 1, -1);
        m.note(0, 0, 0, 0, 1);
        for (int i = 0; i < 4; i++) {
            int one = i;
            refused(m, NONE, new int[] {-1, 4, 9, 10, MIN, MAX, i}, "the other", a -> m.quarrel(one, a));
            refused(m, NONE, new int[] {-1, 4, 9, 10, MIN, MAX, i}, "the one", a -> m.quarrel(a, one));
        }
        due("with both none", m.quarrel(0, 1), 1);
        due("turned", m.quarrel(1, 0), 1);
        due("with one alone none", m.quarrel(0, 2), 0);
        due("turned", m.quarrel(2, 0), 0);
        due("with both some", m.quarrel(0, 3), 0);
        due("without a land", new MapsOfNothing().quarrel(0, 1), NONE);
        Check.law(m, "bar 0 1=1");
        m.stands(0);
        due("by a law that leaves none", m.quarrel(0, 1), 0);
    }

    private static void least() {
        promise = 19;
        MapsOfNothing m = Check.on("wide 3 2;hill 0 0 1;hill 2 0 1;hill 1 0 1;sort 1");
        m.note(0, 0, 0, 0, 0);
        m.note(0, 0, 1, 0, 0);
        m.note(0, 0, 2, 0, 0);
        m.note(0, 0, 0, 0, 0);
        m.note(0, 0, 0, 0, 1);
        due("of none", m.least(0), 0);
        due("of one", m.least(1), 1);
        due("of one that says nothing", m.least(16), 0);
        due("two shut all out", m.least(3), 3);
        due("one shuts all out", m.least(7), 4);
        due("the least of two alike", m.least(9), 1);
        due("of a set that has not the least one", m.least(24), 8);
        due("two of three, the least of several", m.least(11), 3);
        due("all", m.least(31), 4);
        MapsOfNothing full = Check.on(SMALL);
        for (int i = 0; i < 10; i++) {
            full.note(0, 0, 0, 0, 0);
        }
        due("ten alike", full.least(1023), 1);
        due("the last two", full.least(768), 256);
        Check.law(full, "bar 0 1=1");
        full.stands(0);
        due("none fits at all", full.least(1023), 0);
    }

    /** Of careless notes: two of the hill's four squares at most, one of the row at most, and so on. */
    private static MapsOfNothing carelessNotes() {
        MapsOfNothing m = Check.on("wide 3 2;hill 0 0 1;road 0 0 2 0;sort 4");
        m.note(0, 0, 0, 0, 2);
        m.note(1, 1, 0, 0, 1);
        m.note(2, 0, 0, 0, 1);
        m.note(3, 0, 0, 0, 3);
        m.note(4, 1, 0, 0, 3);
        due("the first two", m.layings(3), 1);
        return m;
    }

    private static void careless() {
        promise = 20;
        MapsOfNothing sure = carelessNotes();
        due("one can't be", sure.careless(31), 4);
        due("the others can", sure.careless(27), 0);
        promise = 21;
        due("whose one can't be", sure.trust(31), 4);
        due("the others can", sure.trust(27), 0);
        promise = 19;
        due("two at most says three at most", sure.least(9), 1);
        due("three in a row says nothing", sure.least(16), 0);
        due("one in the row says three at most", sure.least(10), 2);
        due("of all that can be", sure.least(27), 3);
        due("one that can't be says all", sure.least(31), 4);
        promise = 20;
        // One of the first row at most, so all of the second; and none on its last square.
        MapsOfNothing row = Check.on("wide 3 2;road 0 0 2 0;road 2 1 2 1;sort 4");
        row.note(0, 1, 0, 0, 1);
        row.note(1, 1, 1, 0, 0);
        due("each alone can be", row.quarrel(0, 1), 1);
        due("the least of two", row.careless(3), 1);
        // What was counted for fewer notes is not counted on.
        MapsOfNothing later = Check.on("wide 3 2;hill 0 0 1;sort 1");
        later.note(0, 0, 0, 0, -1);
        due("it fits", later.careless(1), 0);
        later.note(0, 0, 0, 0, 0);
        due("with one more it does not", later.careless(3), 1);
        later.note(0, 0, 0, 0, 0);
        due("nor with two more", later.careless(7), 1);
        MapsOfNothing m = Check.on("wide 3 2;hill 0 0 1;sort 1;sort 0");
        for (int i = 0; i < 10; i++) {
            m.note(i % 6, 0, 0, 1, -1);
        }
        due("none is to be left out", m.careless(0), 0);
        due("all ten", m.careless(1023), 1023);
        due("the last", m.careless(512), 512);
        due("two", m.careless(0b1000000001), 0b1000000001);
        MapsOfNothing two = Check.on("wide 3 2;hill 0 0 1;sort 1");
        two.note(0, 0, 0, 0, -1);
        two.note(0, 0, 0, 0, 0);
        two.note(0, 0, 0, 0, -1);
        two.note(0, 0, 0, 0, 0);
        due("one of two, the least", two.careless(3), 1);
        due("the fewest", two.careless(7), 2);
        due("two against two, the least", two.careless(15), 5);
        due("they fit", two.careless(5), 0);
        Check.law(two, "bar 0 1=1");
        two.stands(0);
        due("not even without all", two.careless(15), -2);
        due("not even of none", two.careless(0), -2);
    }

    /** The notes leave one square alone, the first or the last, of which none of them speaks. */
    private static void squaresNobodySpeaksOf() {
        promise = 20;
        String[] lands = {"wide 2 2;road 1 0 1 1;road 0 1 1 1;sort 1", "wide 6 6;wood 0 0 5 4;road 0 5 3 5;road 3 5 4 5;sort 1"};
        for (String land : lands) {
            MapsOfNothing m = Check.on(land);
            m.note(0, 1, 0, 0, 0);
            m.note(1, 1, 1, 0, 0);
            due("one laying", m.layings(3), 1);
            due("it fits", m.careless(3), 0);
            due("all are trusted", m.trust(3), 0);
            due("both say something", m.least(3), 3);
        }
    }

    /** Ten notes, and no two squares of which the same notes speak: for all sets, held against their squares as bits. */
    private static void allSquaresToldApart() {
        String land = "wide 6 6;road 0 0 5 0;road 0 1 5 1;road 0 2 5 2;road 0 3 5 3;road 0 4 5 4;road 2 0 2 5"
            + ";hill 0 2 3;hill 0 3 4;hill 5 2 3;hill 5 3 4;sort 1";
        for (int sure = -1; sure <= 0; sure++) {
            MapsOfNothing m = Check.on(land);
            long[] squares = new long[10];
            for (int i = 0; i < 10; i++) {
                due("note", m.note(i % 6, i < 6 ? 1 : 0, i < 6 ? i : i - 6, 0, sure), i);
                long there = i < 5 ? 63L << 6 * i : i == 5 ? 0x104104104L : m.sees(i - 6);
                squares[i] = sure == 0 ? ~there : there;
            }
            int[] many = new int[1024];
            for (int set = 0; set < 1024; set++) {
                long left = (1L << 36) - 1;
                for (int i = 0; i < 10; i++) {
                    left &= (set >> i & 1) != 0 ? squares[i] : -1L;
                }
                many[set] = Long.bitCount(left);
            }
            for (int set = 0; set < 1024; set++) {
                int least = set;
                int out = set;
                for (int part = set; part >= 0; part--) {
                    boolean isPart = (part & ~set) == 0;
                    least = isPart && many[part] == many[set] && isAsFew(part, least) ? part : least;
                    out = isPart && many[set ^ part] > 0 && isAsFew(part, out) ? part : out;
                }
                promise = 19;
                due("least of " + set, m.least(set), least);
                promise = 20;
                due("careless of " + set, m.careless(set), out);
            }
        }
    }

    private static boolean isAsFew(int set, int best) {
        return Integer.bitCount(set) <= Integer.bitCount(best);
    }

    private static void trust() {
        promise = 21;
        MapsOfNothing m = Check.on("wide 3 2;hill 0 0 1;sort 1;sort 0");
        for (int i = 0; i < 10; i++) {
            m.note(i % 6, 0, 0, 1, -1);
        }
        due("nobody", m.trust(0), 0);
        due("all six", m.trust(1023), 63);
        due("all six, one note each", m.trust(63), 63);
        due("the last one", m.trust(32), 32);
        due("one of two notes", m.trust(0b1000001), 1);
        MapsOfNothing two = Check.on("wide 3 2;hill 0 0 1;sort 1");
        two.note(5, 0, 0, 0, -1);
        two.note(3, 0, 0, 0, 0);
        two.note(5, 0, 0, 0, -1);
        two.note(2, 0, 0, 0, 0);
        two.note(2, 0, 0, 0, 0);
        due("the least of two", two.trust(3), 8);
        due("one of many notes", two.trust(31), 32);
        due("the least of several", two.trust(29), 4);
        due("they fit", two.trust(26), 0);
        two.note(5, 0, 0, 0, 0);
        due("his own quarrel", two.trust(33), 32);
        Check.law(two, "bar 0 1=1");
        two.stands(0);
        due("not even without all", two.trust(31), -2);
        due("not even of none", two.trust(0), -2);
    }

    private static void worst() {
        promise = 22;
        MapsOfNothing m = Check.on("wide 3 2;hill 0 0 1;hill 2 1 1;sort 1;sort 1;sort 0");
        refused(m, NONE, new int[] {-1, 2, 7, 8, MIN, MAX}, "hill", a -> m.worst(0, a));
        // Both seen 12, one of them 8 and 8, none 2.
        due("twelve of thirty", m.worst(0, 0), 12);
        m.note(0, 0, 0, 0, 0);
        m.note(0, 0, 0, 0, -1);
        due("eight of ten", m.worst(1, 0), 8);
        due("none fits", m.worst(3, 0), 0);
        due("no things", Check.on("wide 2 2;hill 0 0 1").worst(0, 0), 1);
        due("no hills", Check.on("wide 2 2;sort 1").worst(0, 0), NONE);
        due("it sees all", Check.on("wide 6 6;hill 0 0 9;sort 1;sort 1;sort 1;sort 1").worst(0, 0), 1413720);
        due("the last of eight", Check.on("wide 4 2;hill 0 0 9;hill 1 0 9;hill 2 0 9;hill 3 0 9;hill 0 1 9;hill 1 1 9;hill 2 1 9"
            + ";hill 3 1 1;sort 1").worst(0, 7), 4);
    }

    private static void next() {
        promise = 23;
        MapsOfNothing m = Check.on("wide 4 2;hill 1 0 9;hill 3 1 1;hill 0 0 1;sort 1");
        refused(m, NONE, new int[] {-1, 2, 3, MIN, MAX}, "what", a -> m.next(0, a));
        due("of several the least", m.next(0, 0), 1);
        due("its worst", m.next(0, 1), 4);
        m.note(0, 0, 0, 0, 0);
        m.note(0, 0, 0, 0, -1);
        due("none fits", m.next(3, 0), 0);
        due("none fits", m.next(3, 1), 0);
        MapsOfNothing flat = Check.on("wide 2 2;sort 1");
        due("no hills", flat.next(0, 0), -2);
        due("no hills", flat.next(0, 1), -2);
        refused(flat, NONE, new int[] {-1, 2, MIN, MAX}, "what without hills", a -> flat.next(0, a));
        due("the last of eight", Check.on("wide 4 2;hill 0 0 9;hill 1 0 9;hill 2 0 9;hill 3 0 9;hill 0 1 9;hill 1 1 9;hill 2 1 9"
            + ";hill 3 1 1;sort 1").next(0, 0), 7);
    }

    private static void then() {
        promise = 24;
        MapsOfNothing m = Check.on("wide 4 2;hill 0 0 1;hill 3 0 1;hill 3 1 1;sort 1;sort 0");
        refused(m, NONE, new int[] {-1, 3, 7, 8, MIN, MAX}, "hill", a -> m.then(0, a, 0, 0));
        refused(m, NONE, new int[] {-1, 4, 5, 8, 16, MIN, MAX}, "bits", a -> m.then(0, 0, a, 0));
        refused(m, NONE, new int[] {-1, 2, 3, MIN, MAX}, "what", a -> m.then(0, 0, 0, a));
        due("of several the least", m.then(0, 0, 2, 0), 1);
        due("not the same", m.then(0, 1, 2, 0), 0);
        due("worst of four", m.then(0, 1, 2, 1), 4);
        due("bits it can't tell", m.then(0, 0, 0, 1), 0);
        due("bits it can't tell, the least", m.then(0, 0, 0, 0), 1);
        due("all bits", m.then(0, 0, 3, 1), 4);
        MapsOfNothing one = Check.on("wide 4 2;hill 0 0 1;sort 1");
        due("the same", one.then(0, 0, 0, 0), 0);
        due("its worst", one.then(0, 0, 0, 1), 4);
        refused(one, NONE, new int[] {-1, 2, 3, MIN, MAX}, "bits", a -> one.then(0, 0, a, 0));
        MapsOfNothing none = Check.on("wide 4 2;hill 0 0 1");
        due("no sorts", none.then(0, 0, 0, 1), 1);
        refused(none, NONE, new int[] {-1, 1, 2, MIN, MAX}, "bits without sorts", a -> none.then(0, 0, a, 0));
        MapsOfNothing four = Check.on("wide 4 2;hill 0 0 1;hill 3 0 1;sort 1;sort 1;sort 1;sort 1");
        // All four on the side that is not seen: 24 ways, and the other hill sees them all.
        due("fifteen", four.then(0, 0, 15, 1), 24);
        refused(four, NONE, new int[] {-1, 16, 17, MIN, MAX}, "bits of four", a -> four.then(0, 0, a, 0));
        due("no hills", Check.on("wide 2 2;sort 1").then(0, 0, 0, 0), NONE);
        thenEitherWay();
    }

    /** Hill 0 sees x of 0 and 1, hill 1 sees x of 1 to 3, where all things of the first sort are. */
    private static void thenEitherWay() {
        MapsOfNothing m = Check.on("wide 4 2;hill 0 0 1;hill 2 0 1;sort 1;sort 1", "bar 0 x=0");
        int[] behindFirst = {4, 8, 8, 12};
        int[] behindSecond = {12, 0, 8, 0};
        for (int none = 0; none < 4; none++) {
            due("behind the first " + none, m.then(0, 0, none, 1), behindFirst[none]);
            due("behind the second " + none, m.then(0, 1, none, 1), behindSecond[none]);
            due("the second", m.then(0, 0, none, 0), 1);
            due("the first", m.then(0, 1, none, 0), 0);
        }
        due("plan", m.plan(0, 0), 0);
        due("plan", m.plan(0, 1), 12);
    }

    private static void plan() {
        promise = 25;
        MapsOfNothing m = Check.on("wide 6 2;hill 0 0 5;hill 2 0 1;hill 1 0 1;sort 1");
        refused(m, NONE, new int[] {-1, 2, 3, MIN, MAX}, "what", a -> m.plan(0, a));
        due("of several the least", m.plan(0, 0), 1);
        due("its greatest worst", m.plan(0, 1), 4);
        m.note(0, 0, 0, 0, 0);
        due("none fits", m.plan(1, 0), 0);
        due("none fits", m.plan(1, 1), 0);
        MapsOfNothing flat = Check.on("wide 2 2;sort 1");
        due("no hills", flat.plan(0, 0), -2);
        due("no hills", flat.plan(0, 1), -2);
        refused(flat, NONE, new int[] {-1, 2, MIN, MAX}, "what without hills", a -> flat.plan(0, a));
        due("one hill, twice", Check.on("wide 4 2;hill 0 0 1;sort 1").plan(0, 1), 4);
        // Seven hills see all, so two of them part nothing; with the last one it is 1 of 36 or 35.
        MapsOfNothing last = Check.on("wide 6 6;hill 0 0 9;hill 1 0 9;hill 2 0 9;hill 3 0 9;hill 4 0 9;hill 5 0 9;hill 0 1 9"
            + ";hill 5 5 1;sort 1");
        due("each has the last one behind it", last.plan(0, 0), 0);
        due("its greatest worst", last.plan(0, 1), 32);
    }

    private static void fresh() {
        promise = 26;
        MapsOfNothing m = Check.on("wide 6 2;wood 0 0 0 1;sort 1");
        refused(m, NONE, new int[] {-1, 0, 10, 11, MIN, MAX}, "far", a -> m.fresh(0, a, 0));
        refused(m, NONE, new int[] {-1, 2, 3, MIN, MAX}, "what", a -> m.fresh(0, 1, a));
        // Ten squares; far 1 sees 4 of them from (1, 0), 6 from (2, 0); far 2 sees 6 from (1, 0).
        due("far 1", m.fresh(0, 1, 0), 1);
        due("far 1", m.fresh(0, 1, 1), 6);
        due("far 2", m.fresh(0, 2, 1), 6);
        due("far 9", m.fresh(0, 9, 1), 10);
        due("far 9, of several the least", m.fresh(0, 9, 0), 1);
        MapsOfNothing wood = Check.on("wide 2 2;wood 0 0 1 1;sort 1");
        due("all is wood", wood.fresh(0, 9, 0), -2);
        due("all is wood", wood.fresh(0, 1, 1), -2);
        refused(wood, NONE, new int[] {-1, 0, 10, MIN, MAX}, "far, all is wood", a -> wood.fresh(0, a, 0));
        refused(wood, NONE, new int[] {-1, 2, MIN, MAX}, "what, all is wood", a -> wood.fresh(0, 1, a));
        MapsOfNothing hill = Check.on("wide 2 2;wood 0 0 1 1;hill 1 1 1;sort 1");
        due("but for a hill", hill.fresh(0, 1, 0), 7);
        due("but for a hill", hill.fresh(0, 1, 1), 1);
        MapsOfNothing none = Check.on("wide 6 6;wood 0 0 5 4;sort 0");
        due("the first of the last row", none.fresh(0, 1, 0), 30);
        due("one laying", none.fresh(0, 1, 1), 1);
        MapsOfNothing end = Check.on("wide 6 6;wood 0 0 5 4;wood 0 5 4 5;sort 1");
        due("the last square", end.fresh(0, 1, 0), 35);
    }

    private static void walk() {
        promise = 27;
        MapsOfNothing m = Check.on("wide 6 6;hill 0 0 1;hill 5 0 1;hill 5 5 1;hill 0 5 1");
        refused(m, NONE, new int[] {-1, 4, 7, 8, MIN, MAX}, "hill", a -> m.walk(a, 0));
        refused(m, NONE, new int[] {-1, 16, 17, 255, 256, MIN, MAX}, "hills", a -> m.walk(0, a));
        due("over none", m.walk(3, 0), 0);
        due("its own", m.walk(3, 8), 0);
        due("across", m.walk(0, 4), 5);
        due("two", m.walk(0, 6), 10);
        due("all", m.walk(0, 15), 15);
        due("all but its own", m.walk(0, 14), 15);
        MapsOfNothing line = Check.on("wide 6 2;hill 0 0 1;hill 3 0 1;hill 5 0 1");
        due("from the end", line.walk(0, 7), 5);
        due("from the midst", line.walk(1, 7), 7);
        due("the far ones, over the near one", line.walk(0, 4), 5);
        due("the midst left out", line.walk(1, 5), 7);
        MapsOfNothing cut = Check.on("wide 5 2;hill 0 0 1;hill 4 0 1;hill 0 1 1;wood 2 0 2 1");
        due("it can't be", cut.walk(0, 2), -2);
        due("not all", cut.walk(0, 7), -2);
        due("this side", cut.walk(0, 5), 1);
        due("none", cut.walk(1, 0), 0);
        due("itself", cut.walk(1, 2), 0);
        MapsOfNothing eight = Check.on("wide 6 2;hill 0 0 1;hill 1 0 1;hill 2 0 1;hill 3 0 1;hill 4 0 1;hill 5 0 1;hill 0 1 1;hill 5 1 1");
        due("all eight", eight.walk(0, 255), 7);
        due("all eight from the midst", eight.walk(2, 255), 9);
        due("the eighth", eight.walk(0, 128), 5);
        due("a ninth", eight.walk(0, 256), NONE);
        due("from a ninth", eight.walk(8, 0), NONE);
        due("no hills", Check.on("wide 2 2").walk(0, 0), NONE);
        due("no land", new MapsOfNothing().walk(0, 0), NONE);
    }

    /** From side to side between woods: 4 steps, 5 round the end of the first wood, and so on. */
    private static void farWalk() {
        promise = 27;
        MapsOfNothing m = Check.on("wide 6 6;wood 0 1 4 1;wood 1 3 5 3;hill 0 0 1;hill 5 4 1;hill 4 2 1");
        due("there", m.walk(0, 2), 15);
        due("back", m.walk(1, 1), 15);
        due("on the way", m.walk(0, 6), 15);
        due("all from the midst", m.walk(2, 7), 21);
        MapsOfNothing over = Check.on("wide 6 6;wood 0 1 4 1;wood 1 3 5 3;hill 0 0 1;hill 5 4 1;hill 1 1 1;hill 4 3 1");
        due("over hills in the woods", over.walk(0, 2), 5);
    }

    private static void seed() {
        promise = 28;
        MapsOfNothing m = new MapsOfNothing();
        due("0 at first", m.seed(MAX), 0);
        refused(m, NONE, new int[] {-1, -2, -MAX, MIN}, "seed", m::seed);
        due("the greatest", m.seed(0), MAX);
        due("the least", m.seed(1), 0);
        due("one", m.count(9), 1);
    }

    private static void drawn() {
        promise = 29;
        MapsOfNothing m = Check.on("wide 6 6;hill 0 0 1;sort 1;sort 1;sort 1;sort 1");
        for (int seed : new int[] {0, 1, 65535, 65536, 1 << 30, MAX - 1, MAX}) {
            long x = seed;
            m.seed(seed);
            for (int i = 0; i < 3; i++) {
                x = (x * 1103515245L + 12345L) % 2147483648L;
                due("of more than there are draws", m.drawn(0), x / 65536);
                due("x", m.count(9), x);
            }
        }
        MapsOfNothing one = Check.on("wide 2 2;hill 0 0 1;sort 4");
        one.note(0, 0, 0, 0, 0);
        one.seed(MAX);
        due("of one", one.drawn(0), 0);
        due("x goes on", one.count(9), (MAX * 1103515245L + 12345L) % 2147483648L);
        refused(one, -2, new int[] {1}, "none fits", one::drawn);
        refused(one, NONE, new int[] {2, 3, -1, MIN, MAX}, "no notes", one::drawn);
        MapsOfNothing bare = new MapsOfNothing();
        bare.seed(9);
        due("no land", bare.drawn(0), NONE);
        due("x stays", bare.count(9), 9);
        due("no things", Check.on("wide 2 2").drawn(0), 0);
    }

    private static void count() {
        promise = 30;
        MapsOfNothing m = new MapsOfNothing();
        refused(m, NONE, new int[] {-1, 11, 12, -2, MIN, MAX}, "what", m::count);
        Check.land(m, SMALL);
        refused(m, NONE, new int[] {-1, 11, 12, -2, MIN, MAX}, "what", m::count);
    }

    private static void images() {
        promise = 31;
        MapsOfNothing m = new MapsOfNothing();
        refused(m, NONE, new int[] {-1, 4, 5, MIN, MAX}, "image", m::image);
        promise = 32;
        refused(m, NONE, new int[] {0, 1, 2, 3, -1, 4, 5, MIN, MAX}, "back", m::back);
        promise = 31;
        due("of no land", m.image(3), 0);
        Check.land(m, SMALL);
        for (int k = 0; k < 3; k++) {
            due("image " + k, m.image(k), k);
            due("note", m.note(k, 0, 0, 0, 0), k);
        }
        promise = 32;
        for (int k = 0; k < 4; k++) {
            due("back " + k, m.back(k), k % 3);
            due("notes", m.count(6), k % 3);
            due("columns", m.count(0), k == 3 ? 0 : 3);
        }
        refused(m, NONE, new int[] {-1, 4, 5, MIN, MAX}, "back", m::back);
        due("one behind", m.back(2), 2);
        promise = 31;
        due("over another one", m.image(0), 2);
        m.back(1);
        promise = 32;
        due("the later one", m.back(0), 2);
        MapsOfNothing full = Check.on(SMALL);
        for (int i = 0; i < 10; i++) {
            full.note(0, 0, 0, 0, 0);
        }
        due("all ten", full.image(0), 10);
        Check.land(full, "wide 2 2");
        due("all ten", full.back(0), 10);
    }

    /** All but the laws and the tape. */
    private static void imagesKeepAll() {
        promise = 32;
        MapsOfNothing m = Check.on("wide 5 4;wood 1 1 2 2;hill 0 0 9;hill 4 3 2;road 0 3 4 3;road 3 0 3 3;sort 1;sort 2", "bar 1 woods>2");
        m.note(1, 0, 1, 0, -1);
        m.note(5, 1, 1, 1, 1);
        m.seed(123456);
        String before = print(m);
        m.image(1);
        same("an image", before, m);
        Check.land(m, "wide 6 2;hill 5 1 1;sort 4");
        m.stands(NONE);
        m.seed(1);
        m.note(0, 0, 0, 0, 3);
        due("back", m.back(1), 2);
        same("going back", before, m);
        m.drawn(0);
        due("x is gone back to", m.back(1), 2);
        same("going back once more", before, m);
        m.feed(1, 2, 3, 4, 5);
        Check.law(m, "bar 0 x=0");
        m.feed(1, 2, 3, 4, 5);
        m.stands(1);
        due("back", m.back(1), 2);
        due("the laws stay", m.count(7), 2);
        due("the tape stays", m.count(10), 20);
        due("the law that stood", m.count(8), 0);
        due("it can stand yet", m.stands(1), 0);
        m.stands(0);
        m.end(0);
        due("further laws", Check.law(m, "bar 0 y=0"), 2);
        m.image(2);
        due("a law told later stands in an image", m.stands(2), 0);
        m.image(3);
        m.back(2);
        due("not here", m.count(8), 0);
        m.back(3);
        due("but there", m.count(8), 2);
    }

    /** The 512th call is as good as the first. */
    private static void manyCalls() {
        promise = 12;
        // Two ends, three feeds and land; two ends, a feed and law; stands and note.
        MapsOfNothing m = Check.on(SMALL, "bar 0 x=0");
        m.note(0, 0, 0, 0, 0);
        int stood = 0;
        for (int calls = 12; calls < 508; calls += 2) {
            int law = calls / 2 % 2 - 1;
            due("stands", m.stands(law), stood);
            due("layings", m.layings(0), law == 0 ? 20 : 30);
            stood = law;
        }
        due("the 509th", m.stands(0), stood);
        due("the 510th", m.layings(1), 10);
        due("the 511th", m.plan(1, 1), 4);
        due("the 512th", m.drawn(1), 0);
    }
}
