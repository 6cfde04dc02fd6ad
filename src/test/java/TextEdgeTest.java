/** Edges of what a LAND and a LAW may be as texts: each sentence of the document's terms that names one. */
public final class TextEdgeTest {
    private static final int NONE = MapsOfNothing.NONE;
    private static final String W = "wide 3 3;";
    /** Eight HILLS, six ROADS, four SORTS, four things and 24 CLAUSES: nothing more goes in. */
    private static final String FULL = "wide 6 6;hill 0 0 1;hill 1 0 2;hill 2 0 3;hill 3 0 4;hill 4 0 5;hill 5 0 6;hill 0 5 7;hill 5 5 9"
        + ";road 0 0 5 0;road 0 0 0 5;road 5 0 5 5;road 0 5 5 5;road 2 2 2 2;road 1 1 4 1;sort 1;sort 0;sort 2;sort 1"
        + ";wood 0 3 0 3;wood 1 3 1 3;wood 2 3 2 3;wood 3 3 3 3;wood 4 3 4 3";

    public static void main(String[] args) {
        longTexts();
        wide();
        wood();
        hill();
        road();
        sort();
        full();
        cutLands();
        spoiltLands();
        numbers();
        places();
        longLaws();
        apart();
        bar();
        cutLaws();
        spoiltLaws();
        signsAndWords();
        depth();
        sixty();
        clausesOfLaws();
        cutAtTheLastByte();
        Check.finish("TextEdgeTest");
    }

    private static void bad(String text, int place, int code) {
        Check.due("land '" + text + "'", Check.land(new MapsOfNothing(), text), Check.fault(place, code));
    }

    private static void good(String text, int hills) {
        Check.due("land '" + text + "'", Check.land(new MapsOfNothing(), text), hills);
    }

    private static void badLaw(String text, int place, int code) {
        Check.due("law '" + text + "'", Check.law(new MapsOfNothing(), text), Check.fault(place, code));
    }

    private static void goodLaw(String text) {
        Check.due("law '" + text + "'", Check.law(new MapsOfNothing(), text), 0);
    }

    /** A text with so many blanks put in that it has a length. */
    private static String stretch(String front, String rest, int length) {
        return front + " ".repeat(length - front.length() - rest.length()) + rest;
    }

    private static void longTexts() {
        MapsOfNothing m = new MapsOfNothing();
        Check.due("400 bytes, the last of them a number", Check.land(m, stretch("wide 6 6", ";hill 5 5 9;sort 4", 400)), 1);
        Check.due("its last byte counts", m.count(5), 4);
        good(stretch("", "wide 6 6", 400), 0);
        good(stretch("wide 6 6", "", 400), 0);
        bad(" ".repeat(400), 400, 0);
        bad(stretch("wide 6 6", ";", 400), 400, 0);
        bad(stretch("wide 6 6", "!", 400), 399, 0);
        bad(stretch("wide 6 6", ";sort 5", 400), 399, 1);
        bad(stretch("wide", "6", 400), 400, 0);
        // 24 CLAUSES of 16 bytes, and 399 bytes of digits: a NUMBER too long is told where it begins.
        good("wide  6  6" + ";wood 0 0  0  0 ".repeat(23), 0);
        bad("wide" + "6".repeat(396), 4, 1);
        bad("w".repeat(400), 0, 0);
        bad(";".repeat(400), 0, 0);
    }

    private static void wide() {
        for (int columns = 2; columns <= 6; columns++) {
            for (int rows = 2; rows <= 6; rows++) {
                MapsOfNothing m = Check.on("wide " + columns + " " + rows);
                Check.due("columns " + columns, m.count(0), columns);
                Check.due("rows " + rows, m.count(1), rows);
                Check.due("all of it", Long.bitCount(m.hidden()), (long) columns * rows);
                Check.due("the last square", m.square(columns - 1, rows - 1, 0), 0);
                Check.due("beyond the columns", m.square(columns, rows - 1, 0), NONE);
                Check.due("beyond the rows", m.square(columns - 1, rows, 0), NONE);
            }
        }
        for (String n : new String[] {"0", "1", "7", "10", "22", "66", "99999", "100000", "000006"}) {
            bad("wide " + n + " 3", 5, 1);
            bad("wide 3 " + n, 7, 1);
        }
        bad("sort 1;wide 3 3", 0, 4);
        bad("hill 0 0 1", 0, 4);
        bad("road 0 0 0 0", 0, 4);
        bad("  wood", 2, 4);
        bad("wide 3 3;wide 3 3", 9, 4);
        bad("wide 3 3;wide", 9, 4);
        bad(W + "sort 1;wide 9 9", 16, 4);
    }

    private static void wood() {
        MapsOfNothing m = Check.on("wide 6 6;wood 1 2 3 4;wood 5 5 5 5");
        for (int s = 0; s < 36; s++) {
            int x = s % 6;
            int y = s / 6;
            boolean is = x >= 1 && x <= 3 && y >= 2 && y <= 4 || s == 35;
            Check.due("wood on " + s, m.square(x, y, 0), is ? 1 : 0);
        }
        Check.due("one square", Check.on(W + "wood 2 2 2 2").square(2, 2, 0), 1);
        Check.due("all squares", Check.on(W + "wood 0 0 2 2").fresh(0, 1, 0), -2);
        Check.due("one above another", Check.on(W + "wood 0 0 1 1;wood 1 1 2 2").square(1, 1, 0), 1);
        // Columns bound x, rows bound y.
        good("wide 4 2;wood 0 0 3 1", 0);
        good("wide 4 2;wood 3 1 3 1", 0);
        bad("wide 4 2;wood 4 0 4 0", 14, 1);
        bad("wide 4 2;wood 0 2 0 2", 16, 1);
        bad("wide 4 2;wood 0 0 4 1", 18, 1);
        bad("wide 4 2;wood 0 0 3 2", 20, 1);
        good("wide 2 4;wood 0 0 1 3", 0);
        bad("wide 2 4;wood 2 0 2 0", 14, 1);
        bad("wide 2 4;wood 0 0 2 3", 18, 1);
        bad("wide 2 4;wood 0 0 1 4", 20, 1);
        // The second ones not below the first.
        bad(W + "wood 1 1 0 2", 18, 1);
        bad(W + "wood 1 1 2 0", 20, 1);
        bad(W + "wood 2 2 1 1", 18, 1);
        good(W + "wood 1 1 1 2", 0);
        good(W + "wood 1 1 2 1", 0);
    }

    private static void hill() {
        for (int far = 1; far <= 9; far++) {
            good(W + "hill 0 0 " + far, 1);
        }
        for (String far : new String[] {"0", "10", "11", "99", "00000", "000001"}) {
            bad(W + "hill 0 0 " + far, 18, 1);
        }
        good("wide 4 2;hill 3 1 1", 1);
        bad("wide 4 2;hill 4 1 1", 14, 1);
        bad("wide 4 2;hill 3 2 1", 16, 1);
        good("wide 2 4;hill 1 3 1", 1);
        bad("wide 2 4;hill 2 3 1", 14, 1);
        bad("wide 2 4;hill 1 4 1", 16, 1);
        good(W + "hill 0 1 1;hill 1 0 1", 2);
        bad(W + "hill 0 1 1;hill 1 0 1;hill 0 1 9", 36, 5);
        bad(W + "hill 0 1 1;hill 1 0 1;hill 1 0 1", 36, 5);
        MapsOfNothing m = Check.on(W + "hill 2 1 1;hill 0 2 9;hill 1 1 3");
        Check.due("in the order told", m.square(2, 1, 1), 0);
        Check.due("in the order told", m.square(0, 2, 1), 1);
        Check.due("in the order told", m.square(1, 1, 1), 2);
    }

    private static void road() {
        good(W + "road 0 0 0 0", 0);
        good(W + "road 0 0 2 0", 0);
        good(W + "road 0 0 0 2", 0);
        bad(W + "road 0 0 2 1", 14, 5);
        bad(W + "road  0 0 1 2", 15, 5);
        bad(W + "road 1 1 0 1", 18, 1);
        bad(W + "road 1 1 1 0", 20, 1);
        bad("wide 4 2;road 0 0 4 0", 18, 1);
        bad("wide 4 2;road 0 0 0 2", 20, 1);
        bad("wide 4 2;road 4 0 4 0", 14, 1);
        bad("wide 4 2;road 0 2 0 2", 16, 1);
        MapsOfNothing m = Check.on("wide 5 4;road 1 2 4 2;road 1 0 1 2;road 0 3 0 3;sort 1");
        for (int s = 0; s < 24; s++) {
            int x = s % 6;
            int y = s / 6;
            int due = (y == 2 && x >= 1 ? 1 : 0) + (x == 1 && y <= 2 ? 1 : 0) + (x == 0 && y == 3 ? 1 : 0);
            Check.due("roads of " + s, m.square(x, y, 3), x == 5 ? NONE : due);
        }
        int[] fits = {16, 17, 19};
        for (int i = 0; i < 3; i++) {
            m.note(0, 1, i, 0, 0);
            Check.due("in the order told", m.layings(1 << i), fits[i]);
        }
    }

    private static void sort() {
        for (int n = 0; n <= 4; n++) {
            Check.due("things of one sort", Check.on(W + "sort " + n).count(5), n);
            Check.due("of two sorts", Check.on(W + "sort " + n + ";sort " + (4 - n)).count(5), 4);
            bad(W + "sort " + n + ";sort " + (5 - n), 21, n == 0 ? 1 : 5);
        }
        bad(W + "sort 5", 14, 1);
        bad(W + "sort 99999", 14, 1);
        bad(W + "sort 100000", 14, 1);
        good(W + "sort 4;sort 0;sort 0;sort 0", 0);
        bad(W + "sort 1;sort 1;sort 1;sort  2", 36, 5);
        MapsOfNothing m = Check.on("wide 2 2;sort 0;sort 1;sort 0;sort 2");
        Check.due("sorts", m.count(4), 4);
        Check.due("none of the first", m.may(0, 0, 0, 0), 0);
        Check.due("one of the second", m.odds(0, 0, 0, 1, 1), 4);
        Check.due("none of the third", m.may(0, 0, 0, 2), 0);
        Check.due("two of the fourth", m.odds(0, 0, 0, 3, 1), 2);
    }

    private static void full() {
        MapsOfNothing m = Check.on(FULL);
        int[] want = {6, 6, 8, 6, 4, 4};
        for (int i = 0; i < want.length; i++) {
            Check.due("count " + i, m.count(i), want[i]);
        }
        Check.due("the last hill", m.square(5, 5, 1), 7);
        Check.due("the last road", m.note(5, 1, 5, 3, 3), 0);
        Check.due("the last wood", m.square(4, 3, 0), 1);
        for (String more : new String[] {"wide 6 6", "wood 0 0 0 0", "hill 1 1 1", "road 0 0 0 0", "sort 0", "sort"}) {
            bad(FULL + ";" + more, FULL.length() + 1, 4);
            bad(FULL + " ;  " + more, FULL.length() + 4, 4);
        }
        // Of one place the least: a word that can't stand there goes ahead of one CLAUSE too many.
        bad(FULL + ";tall", FULL.length() + 1, 0);
        bad(FULL + ";5", FULL.length() + 1, 0);
        bad(FULL + ";", FULL.length() + 1, 0);
        bad(FULL + ";  ", FULL.length() + 3, 0);
        String eight = FULL.substring(0, FULL.indexOf(";road"));
        bad(eight + ";hill 0 0 0", eight.length() + 1, 4);
        good(eight, 8);
        String six = FULL.substring(0, FULL.indexOf(";sort"));
        bad(six + ";road 9 9 9 9", six.length() + 1, 4);
        good(six, 8);
        String four = FULL.substring(0, FULL.indexOf(";wood"));
        bad(four + ";sort 9", four.length() + 1, 4);
        good(four, 8);
    }

    /** The end, behind the last byte, wherever a CLAUSE is not whole. */
    private static void cutLands() {
        String[] texts = {"wide 3 4", "wide 3 4 ; wood 0 1 2 3", "wide 3 4 ; hill 2 3 9", "wide 3 4 ; road 0 1 0 3", "wide 3 4 ; sort 4"};
        for (String text : texts) {
            String[] words = text.split(" ");
            StringBuilder cut = new StringBuilder();
            for (int i = 0; i < words.length; i++) {
                boolean isWhole = i == 3;
                for (String end : new String[] {"", " ", "   "}) {
                    if (isWhole) {
                        good(cut + end, 0);
                    } else {
                        bad(cut + end, cut.length() + end.length(), 0);
                    }
                }
                cut.append(i == 0 ? "" : " ").append(words[i]);
            }
            Check.that("whole '" + cut + "'", Check.land(new MapsOfNothing(), cut.toString()) >= 0);
        }
    }

    /** A byte or a word that can't stand there, in place of each word, number and sign. */
    private static void spoiltLands() {
        String[] wrong = {"!", "x", "wid", "wides", "Wide", "=", "[", "-1", "+1", ",", ";", "\t", "\n", "\0", "" + (char) 255,
            "" + (char) 160, "" + (char) 0xb2};
        String[] texts = {"wide 3 4 ; wood 0 1 2 3 ; ", "wide 3 4 ; hill 2 3 9 ; ", "wide 3 4 ; road 0 1 0 3 ; ", "wide 3 4 ; sort 4 ; "};
        for (String text : texts) {
            String[] words = text.split(" ");
            int place = 0;
            for (int i = 0; i < words.length; i++) {
                for (String w : wrong) {
                    if (!w.equals(words[i])) {
                        bad(text.substring(0, place) + w + text.substring(place + words[i].length()), place, 0);
                    }
                }
                place += words[i].length() + 1;
            }
        }
        bad("wide 3 3;hil 0 0 1", 9, 0);
        bad("wide 3 3;hills 0 0 1", 9, 0);
        bad("wide 3 3;hillx0 0 1", 9, 0);
        bad("wide 3 3 ;bar 0 x=1", 10, 0);
        bad("wide 3x3", 6, 0);
        bad("wide 3,3", 6, 0);
        bad("wide 3 3hill 0 0 1", 8, 0);
    }

    private static void numbers() {
        good("wide 00002 00006;hill 00001 00005 00009;sort 00004;road 00000 0 0 0;wood 0 0 00001 0", 1);
        bad("wide 000002 6", 5, 1);
        bad("wide 2 000006", 7, 1);
        bad(W + "wood 000000 0 0 0", 14, 1);
        bad(W + "wood 0 000000 0 0", 16, 1);
        bad(W + "wood 0 0 000000 0", 18, 1);
        bad(W + "wood 0 0 0 000000", 20, 1);
        bad(W + "road 000000 0 0 0", 14, 1);
        bad(W + "road 0 000000 0 0", 16, 1);
        bad(W + "road 0 0 000000 0", 18, 1);
        bad(W + "road 0 0 0 000000", 20, 1);
        bad(W + "hill 000000 0 1", 14, 1);
        bad(W + "hill 0 000000 1", 16, 1);
        bad(W + "hill 0 0 000001", 18, 1);
        bad(W + "sort 000000", 14, 1);
        // 2 to the 32nd and 64th power and 2 more: as numbers that go round they would be as told.
        bad("wide 4294967298 3", 5, 1);
        bad("wide 18446744073709551618 3", 5, 1);
        bad(W + "sort 4294967296", 14, 1);
    }

    /** The first along the text, of several; of one place the least. */
    private static void places() {
        bad("wide 7 7;tall", 5, 1);
        bad("wide 3 7;wide", 7, 1);
        bad("wide 3 3 tall;sort 9", 9, 0);
        bad(W + "sort 9;sort 9", 14, 1);
        bad(W + "sort 4;sort 9", 21, 1);
        bad(W + "sort 4;sort 1;wide 3 3", 21, 5);
        bad(W + "hill 1 1 1;hill 1 1 1;tall", 25, 5);
        bad(W + "hill 1 1 1;hill 1 1 10", 25, 5);
        bad(W + "hill 1 1 1;hill 1 1 x", 25, 5);
        bad(W + "hill 1 1 1;hill 1 x 1", 27, 0);
        bad(W + "hill 1 1 1;hill 4 1 1", 25, 1);
        bad(W + "road 0 0 2 2;sort 5", 14, 5);
        bad(W + "road 3 0 2 2", 14, 1);
        bad(W + "road 0 0 2 x", 20, 0);
    }

    private static void longLaws() {
        goodLaw(stretch("bar 0 x", "=1", 400));
        goodLaw(stretch("", "apart 0 0 5", 400));
        badLaw(" ".repeat(400), 400, 0);
        badLaw(stretch("bar 0 x", "=", 400), 400, 0);
        badLaw(stretch("bar 0 x=1", "]", 400), 399, 0);
        badLaw(stretch("bar 0 x=1;apart 0 0", "6", 400), 399, 1);
        badLaw("bar " + "0".repeat(396), 4, 1);
        badLaw("bar 0 x=" + "1".repeat(392), 8, 1);
        badLaw("bar 0 " + "x".repeat(394), 6, 0);
        badLaw("[".repeat(400), 0, 0);
        badLaw("bar 0 " + "[".repeat(394), 16, 2);
        badLaw("bar 0 " + "not ".repeat(98), 46, 2);
    }

    private static void apart() {
        for (int a = 0; a < 4; a++) {
            for (int b = 0; b < 4; b++) {
                for (int d = 1; d < 6; d++) {
                    goodLaw("apart " + a + " " + b + " " + d);
                }
            }
        }
        for (String n : new String[] {"4", "9", "10", "99999", "100000", "000000"}) {
            badLaw("apart " + n + " 0 1", 6, 1);
            badLaw("apart 0 " + n + " 1", 8, 1);
            badLaw("bar " + n + " x=1", 4, 1);
        }
        for (String n : new String[] {"0", "6", "10", "99999", "100000", "000001"}) {
            badLaw("apart 0 0 " + n, 10, 1);
        }
        goodLaw("apart 00003 00003 00005");
    }

    private static void bar() {
        for (int sort = 0; sort < 4; sort++) {
            MapsOfNothing m = Check.on(W + "sort 1;sort 1;sort 1;sort 1", "bar " + sort + " x=2 and y=2");
            Check.due("bar " + sort, m.square(2, 2, 5), 1 << sort);
            Check.due("bar " + sort, m.square(2, 1, 5), 0);
        }
        goodLaw("bar 0 0=0");
        goodLaw("bar 0 99999=99999");
        goodLaw("bar 0 00000=00001");
        badLaw("bar 0 100000=1", 6, 1);
        badLaw("bar 0 1=000001", 8, 1);
        badLaw("bar 0 x+1*100000=1", 10, 1);
        badLaw("bar 0 [x=1 and not y>999999]", 21, 1);
    }

    private static void cutLaws() {
        String[] words = "apart 0 3 5 ; bar 3 x + 1 <= y * 2 and not [ seen / 3 > 0 or hill = 1 ]".split(" ");
        StringBuilder cut = new StringBuilder();
        for (int i = 0; i < words.length; i++) {
            boolean isWhole = i == 4 || i == 12 || i == 14;
            if (isWhole) {
                goodLaw(cut.toString());
            } else {
                badLaw(cut.toString(), cut.length(), 0);
                badLaw(cut + "  ", cut.length() + 2, 0);
            }
            cut.append(i == 0 ? "" : " ").append(words[i]);
        }
        goodLaw(cut.toString());
    }

    private static void spoiltLaws() {
        String text = "apart 0 3 5 ; bar 3 x + 1 <= y and not [ seen > 0 or hill = 1 ] ; ";
        String[] words = text.split(" ");
        String[] wrong = {"!", "wood", "Bar", "nots", "=<", "(", ",", "\t", "\0", "" + (char) 200, "" + (char) 160, "" + (char) 0xb2};
        int place = 0;
        for (String word : words) {
            for (String w : wrong) {
                badLaw(text.substring(0, place) + w + text.substring(place + word.length()), spoiltAt(word, w, place), 0);
            }
            place += word.length() + 1;
        }
    }

    /** Where a SIGN may stand, = can, and then < can't. */
    private static int spoiltAt(String word, String wrong, int place) {
        boolean isSign = word.equals("<=") || word.equals(">") || word.equals("=") || word.equals("+");
        return wrong.equals("=<") && isSign ? place + 1 : place;
    }

    private static void signsAndWords() {
        for (String word : new String[] {"x", "y", "woods", "seen", "hill", "road", "edge", "0", "99999"}) {
            for (String sign : new String[] {"<", "<=", "=", ">=", ">", "+1=", "-1=", "*1=", "/1="}) {
                goodLaw("bar 0 " + word + sign + word);
                goodLaw("bar 0 " + word + " " + sign + "  " + word + " ");
            }
            badLaw("bar 0 " + word + "!" + word, 6 + word.length(), 0);
        }
        for (String word : new String[] {"xy", "xx", "wood", "woodsy", "see", "seens", "hills", "roads", "edges", "edg", "and", "or", "z"}) {
            badLaw("bar 0 " + word + "=1", 6, 0);
            badLaw("bar 0 1=" + word, 8, 0);
            badLaw("bar 0 1=1+" + word, 10, 0);
        }
        for (String sign : new String[] {"==", "<>", "!=", "=>", "=<", "<<", ">>", "++", "--", "**", "//", "+-"}) {
            badLaw("bar 0 x" + sign + "1", sign.charAt(0) == '!' ? 7 : 8, 0);
        }
        // The bytes beside a and z, 0 and 9 are no letters and no digits.
        badLaw("bar 0 xz=1", 6, 0);
        badLaw("bar 0 xa=1", 6, 0);
        badLaw("bar 0 x{=1", 7, 0);
        badLaw("bar 0 x`=1", 7, 0);
        badLaw("bar 0 1:=1", 7, 0);
        badLaw("bar 0 :=1", 6, 0);
        goodLaw("bar 0 1/9=0");
        badLaw("bar 0 x>==1", 9, 0);
        badLaw("bar 0 x> =1", 9, 0);
        badLaw("bar 0 1 2=1", 8, 0);
        badLaw("bar 0 x1=1", 7, 0);
        badLaw("bar 0 1x=1", 7, 0);
        badLaw("bar 0 x=1 or", 12, 0);
        badLaw("bar 0 x=1 and or x=1", 14, 0);
        badLaw("bar 0 x=1 or and x=1", 13, 0);
        badLaw("bar 0 x=1 and;", 13, 0);
        badLaw("bar 0 x=1orx=1", 9, 0);
        badLaw("bar 0 x<1<1", 9, 0);
        badLaw("bar 0 [x=1]=1", 11, 0);
        badLaw("bar 0 [x+1]=1", 10, 0);
        badLaw("bar 0 not", 9, 0);
        badLaw("bar 0 not x", 11, 0);
        badLaw("bar 0 not;", 9, 0);
    }

    private static void depth() {
        String ten = "[".repeat(10) + "x=1" + "]".repeat(10);
        goodLaw("bar 0 " + ten);
        goodLaw("bar 0 " + ten + " and " + ten + " or " + ten + ";bar 1 " + ten);
        goodLaw("bar 0 " + "not ".repeat(10) + "x=1 or " + "not ".repeat(10) + "x=1");
        goodLaw("bar 0 " + "[not ".repeat(5) + "x=1" + "]".repeat(5));
        badLaw("bar 0 [" + ten + "]", 16, 2);
        badLaw("bar 0 not " + ten, 19, 2);
        badLaw("bar 0 [x=1 and " + ten + "]", 24, 2);
        badLaw("bar 0 [x=1] and [" + ten + "]", 26, 2);
        badLaw("bar 0 " + "not ".repeat(10) + "[x=1]", 46, 2);
        badLaw("bar 0 " + "[not ".repeat(5) + "not x=1", 31, 2);
        badLaw("bar 0 " + "[not ".repeat(5) + "  [x=1", 33, 2);
        badLaw("bar 0 " + "[".repeat(10) + "nots", 16, 0);
        badLaw("bar 0 " + "[".repeat(10) + "x=1" + "]".repeat(11), 29, 0);
        badLaw("bar 0 " + "[".repeat(10) + "x=1" + "]".repeat(9), 28, 0);
        badLaw("bar 0 " + "[".repeat(9) + "[x=1] and [[", 26, 2);
    }

    private static void sixty() {
        // Each CLAUSE of two VALUES and a FACT: 57, then three more.
        String nineteen = "bar 0 x=1" + " or x=1".repeat(18);
        goodLaw(nineteen + ";bar 1 x=1");
        badLaw(nineteen + ";bar 1 x=1 or y=1", nineteen.length() + 14, 3);
        badLaw(nineteen + ";bar 1 x=1;bar 2 y=1", nineteen.length() + 17, 3);
        goodLaw(nineteen + ";bar 1 x=1;apart 0 0 1");
        badLaw(nineteen + ";bar 1 x+1=1", nineteen.length() + 11, 3);
        badLaw(nineteen + ";bar 1 x+1+1 =1", nineteen.length() + 13, 3);
        badLaw(nineteen + ";bar 1 x+1+1 <=1", nineteen.length() + 13, 3);
        badLaw(nineteen + ";bar 1 x+1+1+seen", nineteen.length() + 13, 3);
        badLaw(nineteen + ";bar 1 x+1+1+see", nineteen.length() + 13, 0);
        badLaw(nineteen + ";bar 1 x+1+1+100000", nineteen.length() + 13, 1);
        badLaw(nineteen + ";bar 1 x+1+1 !", nineteen.length() + 13, 0);
        badLaw(nineteen + ";bar 1 x+1+1", nineteen.length() + 12, 0);
        // NUMBERS of CLAUSES, brackets, not, and, or are not counted.
        goodLaw("apart 0 0 1;" + nineteen + " and not [not [[x=1]]]");
        goodLaw("bar 0 " + "1+".repeat(28) + "1<" + "1*".repeat(29) + "1");
        badLaw("bar 0 " + "1+".repeat(28) + "1<" + "1*".repeat(30) + "1", 6 + 58 + 60, 3);
        // A law refused does not count for the next one.
        MapsOfNothing m = new MapsOfNothing();
        Check.due("too many", Check.law(m, nineteen + ";bar 1 x=1 or y=1"), Check.fault(nineteen.length() + 14, 3));
        Check.due("just so many", Check.law(m, nineteen + ";bar 1 x=1"), 0);
        Check.due("and again", Check.law(m, nineteen + ";bar 1 x=1"), 1);
    }

    private static void clausesOfLaws() {
        String twelve = "apart 0 0 1" + ";bar 0 x=1;apart 1 1 1".repeat(5) + ";bar 1 x=2";
        goodLaw(twelve);
        badLaw(twelve + ";apart 0 0 1", twelve.length() + 1, 4);
        badLaw(twelve + "; bar 9", twelve.length() + 2, 4);
        badLaw(twelve + ";bar", twelve.length() + 1, 4);
        badLaw(twelve + ";bars", twelve.length() + 1, 0);
        badLaw(twelve + ";", twelve.length() + 1, 0);
        badLaw(twelve + ";;", twelve.length() + 1, 0);
        badLaw(twelve + ";3", twelve.length() + 1, 0);
        badLaw("apart 0 0 1;wide 3 3", 12, 0);
    }

    /** Texts cut anywhere, with their end on byte 400: nothing behind the tape is looked at, whatever could go on there. */
    private static void cutAtTheLastByte() {
        String law = "apart 0 1 2;bar 3 not [x<=y or woods>=seen]and hill<road or edge>1*12345/9;bar 0 x=x";
        for (int n = 0; n <= FULL.length(); n++) {
            String text = stretch("", FULL.substring(0, n), 400);
            int fault = PlainText.landFault(text);
            int got = Check.land(new MapsOfNothing(), text);
            Check.due("land cut at the last byte '" + FULL.substring(0, n) + "'", Math.min(got, 0), fault == 0 ? 0 : -2 - fault);
        }
        for (int n = 0; n <= law.length(); n++) {
            String text = stretch("", law.substring(0, n), 400);
            int fault = PlainText.lawFault(text);
            Check.due("law cut at the last byte '" + law.substring(0, n) + "'", Check.law(new MapsOfNothing(), text),
                fault == 0 ? 0 : -2 - fault);
        }
    }
}
