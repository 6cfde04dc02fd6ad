/** Each promise by its number: ordinary calls, edges, and calls that are not as told. */
public final class PromiseTest {
    private static final int NONE = MapsOfNothing.NONE;
    /** Squares 0, 1, 2 and 6, 7, 8; (1, 0) is wood; hills on (0, 0) and (2, 1); a road along y = 1. */
    private static final String LAND = "wide 3 2;wood 1 0 1 0;hill 0 0 2;hill 2 1 1;road 0 1 2 1;sort 1;sort 1";

    private static int promise;

    public static void main(String[] args) {
        Check.due("NONE", MapsOfNothing.NONE, -1);
        newObject();
        feed();
        end();
        land();
        law();
        stands();
        note();
        square();
        barredSquares();
        sees();
        hidden();
        notes();
        layings();
        layingsByLaw();
        may();
        odds();
        laying();
        rows();
        news();
        quarrel();
        least();
        careless();
        trust();
        worst();
        next();
        then();
        plan();
        fresh();
        walk();
        seed();
        drawn();
        count();
        image();
        back();
        withoutLand();
        withoutThings();
        withoutRoom();
        Check.finish("PromiseTest");
    }

    private static void due(String what, long got, long want) {
        Check.due("promise " + promise + ": " + what, got, want);
    }

    private static void newObject() {
        promise = 1;
        MapsOfNothing m = new MapsOfNothing();
        for (int i = 0; i < 8; i++) {
            due("count " + i, m.count(i), 0);
        }
        due("count 8", m.count(8), NONE);
        due("count 9", m.count(9), 0);
        due("count 10", m.count(10), 0);
        due("layings", m.layings(0), NONE);
    }

    private static void feed() {
        promise = 2;
        MapsOfNothing m = new MapsOfNothing();
        // "wide 2 2;sort 1     "
        due("feed", m.feed(0x77696465, 0x20322032, 0x3b736f72, 0x74203120, 0x20202020), 20);
        due("land", m.land(), 0);
        due("things", m.count(5), 1);
        for (int i = 1; i <= 20; i++) {
            due("feed " + i, m.feed(-1, -2, 0x80000000, 0x7fffffff, 0), 20 * i);
        }
        due("one more", m.feed(0, 0, 0, 0, 0), NONE);
        due("tape", m.count(10), 400);
        m.end(381);
        due("half of it", m.feed(0, 0, 0, 0, 0), NONE);
        due("tape", m.count(10), 381);
        m.end(380);
        due("just so many", m.feed(0, 0, 0, 0, 0), 400);
    }

    private static void end() {
        promise = 3;
        MapsOfNothing m = new MapsOfNothing();
        due("of an empty tape", m.end(0), 0);
        due("beyond it", m.end(1), NONE);
        m.feed(0x77696465, 0x20322032, 0x3b000000, 0, 0);
        due("below 0", m.end(-1), NONE);
        due("beyond", m.end(21), NONE);
        due("stays", m.count(10), 20);
        due("all", m.end(20), 20);
        due("eight", m.end(8), 8);
        due("not longer", m.end(9), NONE);
        due("land", m.land(), 0);
    }

    private static void land() {
        promise = 4;
        MapsOfNothing m = Check.on(LAND);
        due("tape", m.count(10), 0);
        due("hills", m.count(2), 2);
        m.note(0, 0, 0, 0, 0);
        m.seed(5);
        Check.law(m, "apart 0 1 2");
        m.stands(0);
        due("another", Check.land(m, "wide 4 5;hill 3 4 1;hill 0 0 1;hill 1 1 1"), 3);
        due("columns", m.count(0), 4);
        due("rows", m.count(1), 5);
        due("roads", m.count(3), 0);
        due("sorts", m.count(4), 0);
        due("notes", m.count(6), 0);
        due("law stands", m.count(8), 0);
        due("x", m.count(9), 5);
        due("wood is gone", m.square(1, 0, 0), 0);
        due("a fault", Check.land(m, "wide 2 2;wood"), Check.fault(13, 0));
        due("all stays", m.count(0), 4);
        due("tape is empty", m.count(10), 0);
    }

    private static void law() {
        promise = 5;
        MapsOfNothing m = new MapsOfNothing();
        due("first", Check.law(m, "apart 0 0 2"), 0);
        due("tape", m.count(10), 0);
        due("a fault", Check.law(m, "apart 0 0 7"), Check.fault(10, 1));
        due("tape", m.count(10), 0);
        due("second", Check.law(m, "bar 0 x=0"), 1);
        due("third", Check.law(m, "bar 0 y=0"), 2);
        due("fourth", Check.law(m, "bar 1 y=0"), 3);
        Check.text(m, "bar 1 y=1");
        due("fifth", m.law(), NONE);
        due("tape stays", m.count(10), 9);
        due("laws", m.count(7), 4);
        Check.land(m, "wide 3 2;sort 1");
        due("without", m.layings(0), 6);
        m.stands(1);
        due("second stands", m.layings(0), 4);
        m.stands(2);
        due("third stands", m.layings(0), 3);
        m.stands(3);
        due("of another sort", m.layings(0), 6);
    }

    private static void stands() {
        promise = 6;
        MapsOfNothing m = new MapsOfNothing();
        due("no law", m.stands(0), -2);
        due("none", m.stands(NONE), NONE);
        Check.law(m, "bar 0 x=0");
        due("at first none", m.count(8), NONE);
        due("first", m.stands(0), NONE);
        due("again", m.stands(0), 0);
        due("without it", m.stands(1), -2);
        due("below", m.stands(-2), -2);
        due("stays", m.count(8), 0);
        due("none again", m.stands(NONE), 0);
        due("none", m.count(8), NONE);
    }

    private static void note() {
        promise = 7;
        MapsOfNothing m = Check.on(LAND);
        int[][] wrong = {{-1, 0, 0, 0, 0}, {6, 0, 0, 0, 0}, {0, -1, 0, 0, 0}, {0, 2, 0, 0, 0}, {0, 0, -1, 0, 0},
            {0, 0, 2, 0, 0}, {0, 1, 1, 0, 0}, {0, 0, 0, -1, 0}, {0, 0, 0, 2, 0}, {0, 0, 0, 0, -2}, {0, 0, 0, 0, 4}};
        for (int[] w : wrong) {
            due("a wrong one", m.note(w[0], w[1], w[2], w[3], w[4]), NONE);
        }
        due("none of these", m.count(6), 0);
        for (int i = 0; i < 10; i++) {
            due("note " + i, m.note(i % 6, i % 2, i % 2 == 0 ? i / 2 % 2 : 0, i % 2, i % 5 - 1), i);
        }
        due("an eleventh", m.note(0, 0, 0, 0, 0), NONE);
        due("notes", m.count(6), 10);
        due("all ten are a set", m.layings(1023) >= 0 ? 1 : 0, 1);
        due("an eleventh bit", m.layings(1024), NONE);
    }

    private static void square() {
        promise = 8;
        MapsOfNothing m = Check.on("wide 4 3;wood 1 0 2 2;hill 1 1 3;hill 3 2 1;road 0 0 0 2;road 0 0 3 0;sort 1");
        due("wood", m.square(1, 0, 0), 1);
        due("no wood on a hill", m.square(1, 1, 0), 0);
        due("no wood", m.square(0, 0, 0), 0);
        due("hill", m.square(3, 2, 1), 1);
        due("no hill", m.square(3, 1, 1), NONE);
        due("seen by one", m.square(0, 0, 2), 1);
        due("seen by both", m.square(2, 1, 2), 2);
        due("seen by the near one", m.square(3, 1, 2), 1);
        due("two roads", m.square(0, 0, 3), 2);
        due("a road in the wood", m.square(1, 0, 3), 1);
        due("no road", m.square(1, 1, 3), 0);
        due("woods beside", m.square(1, 1, 4), 5);
        due("woods beside a wood", m.square(2, 1, 4), 4);
        due("woods in the corner", m.square(0, 0, 4), 1);
        due("no law", m.square(0, 0, 5), 0);
        due("below", m.square(-1, 0, 0), NONE);
        due("above", m.square(0, -1, 0), NONE);
        due("beyond the columns", m.square(4, 0, 0), NONE);
        due("beyond the rows", m.square(0, 3, 0), NONE);
        due("what", m.square(0, 0, 6), NONE);
        due("what", m.square(0, 0, -1), NONE);
    }

    private static void barredSquares() {
        promise = 8;
        String land = "wide 4 3;wood 1 0 2 2;hill 1 1 3;hill 3 2 1;road 0 0 0 2;road 0 0 3 0;sort 1;sort 0";
        holds(land, "x=2", 2, 1, true);
        holds(land, "x=2", 1, 2, false);
        holds(land, "y=2", 1, 2, true);
        holds(land, "woods=5", 1, 1, true);
        holds(land, "seen=2", 2, 1, true);
        holds(land, "seen=2", 3, 1, false);
        holds(land, "hill=1", 3, 2, true);
        holds(land, "hill=0", 3, 1, true);
        holds(land, "road=2", 0, 0, true);
        holds(land, "edge=1", 1, 1, true);
        holds(land, "edge=0", 3, 1, true);
        holds(land, "1<1", 0, 0, false);
        holds(land, "1<=1", 0, 0, true);
        holds(land, "1>=2", 0, 0, false);
        holds(land, "2>1", 0, 0, true);
        holds(land, "1+2*3=7", 0, 0, true);
        holds(land, "7-2-1=4", 0, 0, true);
        holds(land, "7/2*2=6", 0, 0, true);
        holds(land, "0-7/2=0-3", 0, 0, true);
        holds(land, "1-8/x=1", 0, 0, true);
        holds(land, "5/0=0", 0, 0, true);
        holds(land, "99999*99999*99999*99999>0", 0, 0, 99999L * 99999 * 99999 * 99999 > 0);
        holds(land, "99999*99999*99999*99999*99999<0", 0, 0, 99999L * 99999 * 99999 * 99999 * 99999 < 0);
        holds(land, "1=1 or 1=1 and 1=2", 0, 0, true);
        holds(land, "[1=1 or 1=1] and 1=2", 0, 0, false);
        holds(land, "not 1=2 and 1=2", 0, 0, false);
        holds(land, "not [1=2 and 1=2]", 0, 0, true);
        holds(land, "not not 1=1", 0, 0, true);
        holds(land, "1=2 or 1=2 or 1=1", 0, 0, true);
        holds(land, "1=1 or 1=2 or 1=2 and 1=1 or 1=2", 0, 0, true);
        holds(land, "[1=2 or 1=2 or 1=1] and [1=2 or 1=2]", 0, 0, false);
        MapsOfNothing m = Check.on(land, "bar 0 x=0;bar 1 x=0;bar 2 x=0;bar 3 x=0");
        due("only sorts that are told", m.square(0, 0, 5), 3);
        m.stands(NONE);
        due("no law stands", m.square(0, 0, 5), 0);
    }

    private static void holds(String land, String test, int x, int y, boolean is) {
        due("test " + test, Check.on(land, "bar 1 " + test).square(x, y, 5), is ? 2 : 0);
    }

    private static void sees() {
        promise = 9;
        MapsOfNothing m = Check.on(LAND);
        due("over no wood", m.sees(0), 1 | 2 | 64 | 128 | 256);
        due("near", m.sees(1), 2 | 4 | 128 | 256);
        due("without it", m.sees(2), NONE);
        due("below", m.sees(-1), NONE);
        MapsOfNothing wide = Check.on("wide 6 6;hill 0 0 5;hill 5 5 4;hill 5 0 9;hill 0 5 1");
        due("all", wide.sees(0), (1L << 36) - 1);
        due("far 4", wide.sees(1) & 63 | wide.sees(1) >> 6 & 1, 0);
        due("far 9", wide.sees(2), (1L << 36) - 1);
        due("far 1", wide.sees(3), 1L << 24 | 1L << 25 | 1L << 30 | 1L << 31);
        // From (0, 0) to (2, 1) halves go to the right and downwards: (1, 1) lies between, and (1, 0) does not.
        MapsOfNothing half = Check.on("wide 3 3;hill 0 0 9;wood 1 1 1 1");
        due("half downwards", half.sees(0), 1 | 2 | 4 | 64 | 128 | 4096);
        // The way back from (2, 1) to (0, 0): -1 by 2 goes down to -1 + 1, so (1, 1) again.
        MapsOfNothing turned = Check.on("wide 3 2;hill 2 1 9;wood 1 1 1 1");
        due("half upwards", turned.sees(0), 2 | 4 | 128 | 256);
    }

    private static void hidden() {
        promise = 10;
        due("none hidden", Check.on(LAND).hidden(), 0);
        due("no hills", Check.on("wide 2 3;wood 0 0 0 0").hidden(), 1 | 2 | 64 | 128 | 4096 | 8192);
        due("behind a wood", Check.on("wide 4 2;hill 0 0 9;wood 1 0 1 1").hidden(), 4 | 8 | 256 | 512);
        due("no land", new MapsOfNothing().hidden(), NONE);
    }

    private static void notes() {
        promise = 11;
        MapsOfNothing m = Check.on(LAND);
        m.note(5, 1, 0, 1, -1);
        m.note(3, 0, 1, 0, 2);
        int[][] want = {{5, 1, 0, 1, -1}, {3, 0, 1, 0, 2}};
        for (int i = 0; i < 2; i++) {
            for (int j = 0; j < 5; j++) {
                due("note " + i + " " + j, m.notes(i, j), want[i][j]);
            }
        }
        due("without it", m.notes(2, 0), -2);
        due("below", m.notes(-1, 0), -2);
        due("what", m.notes(0, 5), -2);
        due("what", m.notes(0, -1), -2);
    }

    private static void layings() {
        promise = 12;
        MapsOfNothing m = Check.on("wide 3 2;hill 0 0 1;hill 2 0 1;road 0 0 2 0;sort 2;sort 1");
        due("all", m.layings(0), 15 * 4);
        m.note(0, 0, 0, 0, 0);
        m.note(0, 0, 0, 0, 1);
        m.note(0, 0, 0, 0, -1);
        m.note(0, 1, 0, 0, 1);
        m.note(0, 1, 0, 1, -1);
        m.note(0, 1, 0, 0, 2);
        due("none where the hill sees", m.layings(1), 4);
        due("one at most", m.layings(2), 9 * 4);
        due("at least one", m.layings(4), 14 * 4);
        due("just one", m.layings(6), 8 * 4);
        due("against itself", m.layings(5), 0);
        due("along the road", m.layings(8), 12 * 4);
        due("other sort along the road", m.layings(16), 30);
        due("two at most of two", m.layings(32), 60);
        due("not a note", m.layings(64), NONE);
        due("below", m.layings(-1), NONE);
        due("all four alike", Check.on("wide 6 6;sort 4").layings(0), 58905);
        due("all unlike", Check.on("wide 6 6;sort 1;sort 1;sort 1;sort 1").layings(0), 1413720);
        due("pairs", Check.on("wide 6 6;sort 2;sort 2").layings(0), 630 * 561);
        due("not on woods", Check.on("wide 3 3;wood 0 0 2 1;sort 2").layings(0), 3);
        due("but on hills", Check.on("wide 3 3;wood 0 0 2 1;hill 1 1 1;sort 2").layings(0), 6);
        due("no room", Check.on("wide 2 2;wood 0 0 0 0;sort 4").layings(0), 0);
    }

    private static void layingsByLaw() {
        promise = 12;
        due("apart of one sort", Check.on("wide 3 3;sort 2", "apart 0 0 2").layings(0), 16);
        due("apart 1 says nothing", Check.on("wide 3 3;sort 2", "apart 0 0 1").layings(0), 36);
        due("apart of two sorts", Check.on("wide 3 3;sort 1;sort 1", "apart 1 0 2").layings(0), 32);
        due("two sorts, not within one", Check.on("wide 3 2;sort 2;sort 0", "apart 0 1 5").layings(0), 15);
        due("one of each", Check.on("wide 3 2;sort 2;sort 1", "apart 0 1 2").layings(0), 4);
        due("the greater one", Check.on("wide 4 2;sort 1;sort 1", "apart 0 1 3;apart 0 1 2").layings(0), 8);
        due("bar", Check.on("wide 3 3;sort 1;sort 1", "bar 1 x=1").layings(0), 48);
        due("two bars", Check.on("wide 3 3;sort 1", "bar 0 x=1;bar 0 y=1").layings(0), 4);
        due("sorts not told", Check.on("wide 3 3;sort 1", "bar 1 x=1;apart 0 1 5;apart 3 3 5").layings(0), 9);
        due("twelve bars", Check.on("wide 6 6;sort 1", "bar 0 x+6*y=0" + bars(11)).layings(0), 24);
        due("all barred", Check.on("wide 3 3;sort 1", "bar 0 1=1").layings(0), 0);
    }

    private static String bars(int n) {
        StringBuilder text = new StringBuilder();
        for (int i = 1; i <= n; i++) {
            text.append(";bar 0 x+6*y=").append(i);
        }
        return text.toString();
    }

    private static void may() {
        promise = 13;
        MapsOfNothing m = Check.on(LAND);
        m.note(0, 0, 0, 0, 0);
        due("must", m.may(1, 2, 0, 0), 2);
        due("can't", m.may(1, 0, 0, 0), 0);
        due("may", m.may(1, 0, 0, 1), 1);
        due("not on the wood", m.may(0, 1, 0, 0), 0);
        m.note(0, 0, 0, 0, -1);
        due("without any", m.may(3, 2, 0, 0), 0);
        due("square", m.may(0, 3, 0, 0), NONE);
        due("square", m.may(0, 0, 2, 0), NONE);
        due("sort", m.may(0, 0, 0, 2), NONE);
        due("sort", m.may(0, 0, 0, -1), NONE);
        due("notes", m.may(4, 0, 0, 0), NONE);
    }

    private static void odds() {
        promise = 14;
        MapsOfNothing m = Check.on("wide 2 3;hill 0 0 1;sort 2;sort 1");
        due("above", m.odds(0, 0, 0, 0, 0), 1);
        due("below", m.odds(0, 0, 0, 0, 1), 3);
        due("above", m.odds(0, 1, 2, 1, 0), 1);
        due("below", m.odds(0, 1, 2, 1, 1), 6);
        m.note(0, 0, 0, 0, 0);
        m.note(0, 0, 0, 0, -1);
        due("all above", m.odds(1, 0, 2, 0, 0), 1);
        due("all below", m.odds(1, 0, 2, 0, 1), 1);
        due("none above", m.odds(1, 0, 0, 0, 0), 0);
        due("none below", m.odds(1, 0, 0, 0, 1), 1);
        due("none fits above", m.odds(3, 0, 0, 0, 0), 0);
        due("none fits below", m.odds(3, 0, 0, 0, 1), 1);
        due("part", m.odds(0, 0, 0, 0, 2), NONE);
        due("part", m.odds(0, 0, 0, 0, -1), NONE);
        due("square", m.odds(0, 2, 0, 0, 0), NONE);
        due("sort", m.odds(0, 0, 0, 2, 0), NONE);
        due("notes", m.odds(4, 0, 0, 0, 0), NONE);
    }

    private static void laying() {
        promise = 15;
        MapsOfNothing m = Check.on("wide 2 2;sort 1;sort 2");
        int[][] want = {{0, 1, 6}, {0, 1, 7}, {0, 6, 7}, {1, 0, 6}, {1, 0, 7}, {1, 6, 7}, {6, 0, 1}};
        for (int i = 0; i < want.length; i++) {
            for (int k = 0; k < 3; k++) {
                due("laying " + i + " " + k, m.laying(0, i, k), want[i][k]);
            }
        }
        due("the last one", m.laying(0, 11, 0), 7);
        due("no such place", m.laying(0, 12, 0), -2);
        due("far beyond", m.laying(0, Integer.MAX_VALUE, 0), -2);
        due("no such thing", m.laying(0, 0, 3), -2);
        due("k", m.laying(0, 0, 4), NONE);
        due("k", m.laying(0, 0, -1), NONE);
        due("notes", m.laying(1, 0, 0), NONE);
        placeBelow("with layings", m, 0);
        placeBelow("without a land", new MapsOfNothing(), 0);
        placeBelow("without things", Check.on("wide 2 2"), 0);
        placeBelow("without room", Check.on("wide 2 2;wood 0 0 1 1;sort 1"), 0);
        MapsOfNothing quarrels = Check.on("wide 2 2;hill 0 0 1;sort 1");
        quarrels.note(0, 0, 0, 0, 0);
        placeBelow("with one that fits no laying", quarrels, 1);
    }

    /** A place is from 0 on: NONE goes ahead of there being no laying, or no such thing. */
    private static void placeBelow(String when, MapsOfNothing m, int set) {
        for (int place : new int[] {-1, -2, -12, -1000000, Integer.MIN_VALUE}) {
            for (int k = 0; k < 4; k++) {
                due("place " + place + " " + k + " " + when, m.laying(set, place, k), NONE);
            }
        }
    }

    private static void rows() {
        promise = 16;
        MapsOfNothing m = Check.on("wide 3 2;hill 0 0 1;sort 2");
        due("none in it", m.rows(0, 0, 0, 0), 3);
        due("one", m.rows(0, 0, 0, 1), 9);
        due("two", m.rows(0, 0, 1, 2), 3);
        due("three", m.rows(0, 0, 1, 3), 0);
        due("four", m.rows(0, 0, 1, 4), 0);
        m.note(0, 0, 0, 0, 0);
        due("with a note", m.rows(1, 0, 0, 1), 1);
        due("n", m.rows(0, 0, 0, 5), NONE);
        due("n", m.rows(0, 0, 0, -1), NONE);
        due("row", m.rows(0, 0, 2, 0), NONE);
        due("row", m.rows(0, 0, -1, 0), NONE);
        due("sort", m.rows(0, 1, 0, 0), NONE);
        due("notes", m.rows(2, 0, 0, 0), NONE);
    }

    private static void news() {
        promise = 17;
        MapsOfNothing m = Check.on("wide 4 2;hill 0 0 1;hill 0 1 1;sort 1");
        m.note(0, 0, 0, 0, 0);
        m.note(1, 0, 1, 0, 0);
        m.note(2, 0, 1, 0, 1);
        due("alone", m.news(1, 0), 1);
        due("told by another", m.news(3, 0), 0);
        due("says nothing", m.news(4, 2), 0);
        due("not in the set", m.news(1, 1), NONE);
        due("no note", m.news(1, 3), NONE);
        due("below", m.news(1, -1), NONE);
        due("notes", m.news(9, 0), NONE);
    }

    private static void quarrel() {
        promise = 18;
        MapsOfNothing m = Check.on("wide 2 2;hill 0 0 1;sort 1;sort 1");
        m.note(0, 0, 0, 0, 0);
        m.note(0, 0, 0, 0, -1);
        m.note(0, 0, 0, 1, -1);
        due("alone none fits", m.quarrel(0, 1), 0);
        due("none", m.quarrel(1, 2), 0);
        due("one note", m.quarrel(1, 1), NONE);
        due("no note", m.quarrel(0, 3), NONE);
        due("below", m.quarrel(-1, 0), NONE);
        MapsOfNothing two = Check.on("wide 4 2;hill 0 0 1;sort 1");
        two.note(0, 0, 0, 0, 0);
        two.note(0, 0, 0, 0, -1);
        due("both", two.quarrel(0, 1), 1);
        due("turned", two.quarrel(1, 0), 1);
    }

    private static void least() {
        promise = 19;
        MapsOfNothing m = Check.on("wide 6 2;hill 0 0 1;hill 0 1 2;hill 5 0 1;sort 1");
        m.note(0, 0, 0, 0, 0);
        m.note(0, 0, 1, 0, 0);
        m.note(0, 0, 2, 0, 0);
        m.note(0, 0, 2, 0, 0);
        m.note(0, 0, 0, 0, 1);
        due("the wider one", m.least(3), 2);
        due("one of two alike", m.least(12), 4);
        due("two", m.least(15), 6);
        due("none", m.least(16), 0);
        due("of none", m.least(0), 0);
        due("notes", m.least(32), NONE);
    }

    private static void careless() {
        promise = 20;
        MapsOfNothing m = Check.on("wide 4 2;hill 0 0 1;sort 1");
        m.note(0, 0, 0, 0, 0);
        m.note(0, 0, 0, 0, -1);
        m.note(0, 0, 0, 0, 0);
        due("none", m.careless(5), 0);
        due("the least of several", m.careless(3), 1);
        due("the fewest", m.careless(7), 2);
        due("notes", m.careless(8), NONE);
        due("not even without all", Check.on("wide 2 2;sort 2", "apart 0 0 2").careless(0), -2);
    }

    private static void trust() {
        promise = 21;
        MapsOfNothing m = Check.on("wide 4 2;hill 0 0 1;sort 1");
        m.note(4, 0, 0, 0, 0);
        m.note(5, 0, 0, 0, -1);
        m.note(4, 0, 0, 0, 0);
        m.note(0, 0, 0, 0, 0);
        due("none", m.trust(5), 0);
        due("the least of several", m.trust(7), 16);
        due("the fewest", m.trust(15), 32);
        due("only of the set", m.trust(10), 1);
        due("notes", m.trust(16), NONE);
        due("not even without all", Check.on("wide 2 2;sort 2", "apart 0 0 2").trust(0), -2);
    }

    private static void worst() {
        promise = 22;
        MapsOfNothing m = Check.on("wide 4 2;hill 0 0 1;hill 0 1 2;sort 1;sort 0");
        due("four and four", m.worst(0, 0), 4);
        due("six and two", m.worst(0, 1), 6);
        m.note(0, 0, 0, 0, 0);
        m.note(0, 0, 0, 0, -1);
        due("with a note", m.worst(1, 1), 2);
        due("none fits", m.worst(3, 0), 0);
        due("hill", m.worst(0, 2), NONE);
        due("hill", m.worst(0, -1), NONE);
        due("notes", m.worst(4, 0), NONE);
    }

    private static void next() {
        promise = 23;
        MapsOfNothing m = Check.on("wide 4 2;hill 0 1 2;hill 0 0 1;hill 3 0 1;sort 1");
        due("the hill", m.next(0, 0), 1);
        due("its worst", m.next(0, 1), 4);
        due("what", m.next(0, 2), NONE);
        due("what", m.next(0, -1), NONE);
        due("notes", m.next(1, 0), NONE);
        MapsOfNothing flat = Check.on("wide 2 2;sort 1");
        due("no hills", flat.next(0, 0), -2);
        due("no hills", flat.next(0, 1), -2);
        due("no hills, what", flat.next(0, 2), NONE);
        due("no hills, notes", flat.next(1, 0), NONE);
    }

    private static void then() {
        promise = 24;
        MapsOfNothing m = Check.on("wide 4 2;hill 0 0 1;hill 1 0 1;hill 3 0 1;sort 1");
        due("told that none is there", m.then(0, 0, 1, 0), 1);
        due("worst", m.then(0, 0, 1, 1), 2);
        due("told that one is there", m.then(0, 0, 0, 0), 1);
        due("worst", m.then(0, 0, 0, 1), 4);
        due("from the last", m.then(0, 2, 0, 0), 1);
        due("worst", m.then(0, 2, 0, 1), 2);
        due("bits", m.then(0, 0, 2, 0), NONE);
        due("bits", m.then(0, 0, -1, 0), NONE);
        due("hill", m.then(0, 3, 0, 0), NONE);
        due("what", m.then(0, 0, 0, 2), NONE);
        due("notes", m.then(1, 0, 0, 0), NONE);
        MapsOfNothing one = Check.on("wide 4 2;hill 0 0 1;sort 1;sort 0");
        due("the same, if there is but one", one.then(0, 0, 2, 0), 0);
        due("worst", one.then(0, 0, 2, 1), 4);
        due("what it can't tell", one.then(0, 0, 0, 1), 0);
    }

    private static void plan() {
        promise = 25;
        MapsOfNothing m = Check.on("wide 6 2;hill 0 0 5;hill 1 0 1;hill 2 0 1;sort 1");
        // Behind hill 1 (six of twelve) hill 2 parts both halves: 4 and 2, 2 and 4; hill 0 parts nothing.
        due("the hill", m.plan(0, 0), 1);
        due("greatest worst", m.plan(0, 1), 4);
        due("what", m.plan(0, 2), NONE);
        due("notes", m.plan(1, 0), NONE);
        MapsOfNothing flat = Check.on("wide 2 2;sort 1");
        due("no hills", flat.plan(0, 0), -2);
        due("no hills, notes", flat.plan(1, 0), NONE);
        MapsOfNothing one = Check.on("wide 4 2;hill 0 0 1;sort 1");
        due("but one", one.plan(0, 0), 0);
        due("its worst", one.plan(0, 1), 4);
    }

    private static void fresh() {
        promise = 26;
        MapsOfNothing m = Check.on("wide 6 2;sort 1");
        due("the square", m.fresh(0, 1, 0), 1);
        due("its worst", m.fresh(0, 1, 1), 6);
        due("far 2", m.fresh(0, 2, 0), 0);
        due("far 9 sees all", m.fresh(0, 9, 1), 12);
        due("far", m.fresh(0, 0, 0), NONE);
        due("far", m.fresh(0, 10, 0), NONE);
        due("what", m.fresh(0, 1, 2), NONE);
        due("notes", m.fresh(1, 1, 0), NONE);
        due("not on woods", Check.on("wide 6 2;wood 0 0 2 0;sort 0").fresh(0, 1, 0), 3);
        MapsOfNothing wood = Check.on("wide 2 2;wood 0 0 1 1;sort 1");
        due("all is wood", wood.fresh(0, 1, 0), -2);
        due("all is wood, far", wood.fresh(0, 0, 0), NONE);
    }

    private static void walk() {
        promise = 27;
        MapsOfNothing m = Check.on("wide 6 3;hill 2 1 1;hill 0 0 1;hill 5 2 1;wood 1 0 1 1");
        due("its own", m.walk(0, 1), 0);
        due("none", m.walk(0, 0), 0);
        due("one", m.walk(0, 4), 3);
        due("round the wood", m.walk(0, 2), 3);
        due("all", m.walk(0, 7), 9);
        due("from the end", m.walk(2, 7), 6);
        due("no such set", m.walk(0, 8), NONE);
        due("below", m.walk(0, -1), NONE);
        due("no such hill", m.walk(3, 0), NONE);
        due("below", m.walk(-1, 0), NONE);
        MapsOfNothing cut = Check.on("wide 3 2;hill 0 0 1;hill 2 0 1;wood 1 0 1 1");
        due("it can't be", cut.walk(0, 2), -2);
        due("but here", cut.walk(0, 1), 0);
        due("over a hill in the wood", Check.on("wide 3 2;hill 0 0 1;hill 2 0 1;hill 1 1 1;wood 1 0 1 1").walk(0, 2), 2);
    }

    private static void seed() {
        promise = 28;
        MapsOfNothing m = new MapsOfNothing();
        due("first", m.seed(7), 0);
        due("below 0", m.seed(-1), NONE);
        due("stays", m.count(9), 7);
        due("second", m.seed(2147483647), 7);
        due("x", m.count(9), 2147483647);
        due("third", m.seed(0), 2147483647);
    }

    private static void drawn() {
        promise = 29;
        MapsOfNothing m = Check.on("wide 3 2;hill 0 0 5;sort 1");
        m.note(0, 0, 0, 0, 0);
        due("first x is 12345", m.drawn(0), 0);
        due("x", m.count(9), 12345);
        long x = (12345L * 1103515245L + 12345L) % 2147483648L;
        due("second", m.drawn(0), x / 65536 % 6);
        due("x", m.count(9), x);
        due("none fits", m.drawn(1), -2);
        due("x stays", m.count(9), x);
        due("notes", m.drawn(2), NONE);
        due("x stays", m.count(9), x);
        m.seed(2147483647);
        x = (2147483647L * 1103515245L + 12345L) % 2147483648L;
        due("from the greatest", m.drawn(0), x / 65536 % 6);
        due("x", m.count(9), x);
    }

    private static void count() {
        promise = 30;
        MapsOfNothing m = Check.on("wide 3 2;hill 0 0 1;road 0 0 0 0;road 0 0 1 0;sort 1;sort 2;sort 0");
        m.note(0, 0, 0, 0, 0);
        Check.law(m, "apart 0 0 1");
        Check.law(m, "apart 0 0 1");
        m.stands(1);
        m.seed(9);
        m.feed(0, 0, 0, 0, 0);
        int[] want = {3, 2, 1, 2, 3, 3, 1, 2, 1, 9, 20};
        for (int i = 0; i < want.length; i++) {
            due("count " + i, m.count(i), want[i]);
        }
        due("others", m.count(11), NONE);
        due("others", m.count(-1), NONE);
    }

    private static void image() {
        promise = 31;
        MapsOfNothing m = Check.on(LAND);
        due("no notes", m.image(3), 0);
        m.note(0, 0, 0, 0, 0);
        m.note(1, 0, 0, 0, 0);
        due("two", m.image(0), 2);
        due("beyond", m.image(4), NONE);
        due("below", m.image(-1), NONE);
    }

    private static void back() {
        promise = 32;
        MapsOfNothing m = new MapsOfNothing();
        due("never made", m.back(0), NONE);
        m.image(1);
        Check.land(m, LAND);
        m.note(0, 0, 0, 0, 0);
        m.seed(3);
        Check.law(m, "bar 0 y=1");
        m.stands(0);
        m.image(0);
        due("two fit", m.layings(0), 2 * 4);
        due("one fits", m.layings(1), 4);
        Check.land(m, "wide 6 6;hill 3 3 3;sort 4");
        m.note(1, 0, 0, 0, 1);
        m.note(1, 0, 0, 0, 1);
        m.stands(NONE);
        m.seed(4);
        Check.law(m, "bar 0 y=0");
        m.feed(0, 0, 0, 0, 0);
        due("back", m.back(0), 1);
        int[] want = {3, 2, 2, 1, 2, 2, 1, 2, 0, 3, 20};
        for (int i = 0; i < want.length; i++) {
            due("count " + i, m.count(i), want[i]);
        }
        due("note", m.notes(0, 0), 0);
        due("layings", m.layings(0), 8);
        due("layings", m.layings(1), 4);
        due("sees", m.sees(0), 451);
        due("further back", m.back(1), 0);
        due("no land", m.layings(0), NONE);
        due("no law", m.count(8), NONE);
        due("laws stay", m.count(7), 2);
        due("again", m.back(0), 1);
        m.note(2, 0, 0, 0, 0);
        due("an image stays as it was", m.back(0), 1);
        due("beyond", m.back(4), NONE);
        due("below", m.back(-1), NONE);
        due("never made", m.back(2), NONE);
    }

    private static void withoutLand() {
        promise = 1;
        MapsOfNothing m = new MapsOfNothing();
        due("may", m.may(0, 0, 0, 0), NONE);
        due("odds", m.odds(0, 0, 0, 0, 0), NONE);
        due("laying", m.laying(0, 0, 0), NONE);
        due("rows", m.rows(0, 0, 0, 0), NONE);
        due("news", m.news(0, 0), NONE);
        due("quarrel", m.quarrel(0, 1), NONE);
        due("least", m.least(0), NONE);
        due("careless", m.careless(0), NONE);
        due("trust", m.trust(0), NONE);
        due("worst", m.worst(0, 0), NONE);
        due("next", m.next(0, 0), NONE);
        due("then", m.then(0, 0, 0, 0), NONE);
        due("plan", m.plan(0, 0), NONE);
        due("fresh", m.fresh(0, 1, 0), NONE);
        due("walk", m.walk(0, 0), NONE);
        due("drawn", m.drawn(0), NONE);
        due("notes", m.notes(0, 0), -2);
        due("note", m.note(0, 1, 0, 0, 0), NONE);
        due("square", m.square(0, 0, 5), NONE);
    }

    /** One laying, of nothing. */
    private static void withoutThings() {
        promise = 12;
        MapsOfNothing m = Check.on("wide 2 2;hill 0 0 1;sort 0");
        m.note(0, 0, 0, 0, 0);
        m.note(1, 0, 0, 0, -1);
        due("one", m.layings(0), 1);
        due("none is there", m.layings(1), 1);
        due("at least one", m.layings(2), 0);
        due("may", m.may(0, 0, 0, 0), 0);
        due("odds", m.odds(0, 0, 0, 0, 1), 1);
        due("rows of none", m.rows(0, 0, 0, 0), 1);
        due("rows of one", m.rows(0, 0, 0, 1), 0);
        due("laying", m.laying(0, 0, 0), -2);
        due("least", m.least(3), 2);
        due("careless", m.careless(3), 2);
        due("trust", m.trust(3), 2);
        due("worst", m.worst(0, 0), 1);
        due("then", m.then(0, 0, 1, 1), 1);
        due("then", m.then(0, 0, 0, 1), 0);
        due("plan", m.plan(0, 1), 1);
        due("fresh", m.fresh(0, 1, 1), 1);
        due("drawn", m.drawn(0), 0);
        due("no sorts", Check.on("wide 2 2;hill 0 0 1").worst(0, 0), 1);
    }

    private static void withoutRoom() {
        promise = 12;
        MapsOfNothing m = Check.on("wide 2 2;wood 0 0 1 1;hill 0 0 1;sort 2");
        due("layings", m.layings(0), 0);
        due("worst", m.worst(0, 0), 0);
        due("plan", m.plan(0, 1), 0);
        due("drawn", m.drawn(0), -2);
        due("careless", m.careless(0), -2);
        due("laying", m.laying(0, 0, 0), -2);
    }
}
