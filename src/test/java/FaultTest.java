/** Faults of lands and laws: each kind, its place, and which of several is told. */
public final class FaultTest {
    private static final String W = "wide 3 3;";

    public static void main(String[] args) {
        goodLands();
        landBytes();
        landNumbers();
        landClauses();
        landSquares();
        goodLaws();
        lawBytes();
        lawNumbers();
        lawLimits();
        whatStays();
        Check.finish("FaultTest");
    }

    private static void bad(String text, int place, int code) {
        MapsOfNothing m = new MapsOfNothing();
        Check.due("land '" + text + "'", Check.land(m, text), Check.fault(place, code));
        Check.due("tape behind '" + text + "'", m.count(10), 0);
    }

    private static void good(String text, int hills) {
        Check.due("land '" + text + "'", Check.land(new MapsOfNothing(), text), hills);
    }

    private static void badLaw(String text, int place, int code) {
        MapsOfNothing m = new MapsOfNothing();
        Check.due("law '" + text + "'", Check.law(m, text), Check.fault(place, code));
        Check.due("laws behind '" + text + "'", m.count(7), 0);
        Check.due("tape behind '" + text + "'", m.count(10), 0);
    }

    private static void goodLaw(String text) {
        Check.due("law '" + text + "'", Check.law(new MapsOfNothing(), text), 0);
    }

    private static String times(String part, int n) {
        return part.repeat(n);
    }

    private static void goodLands() {
        good("wide 2 2", 0);
        good("wide 6 6", 0);
        good("  wide  3   3 ; hill 0 0 1  ", 1);
        good("wide3 3;hill0 0 1", 1);
        good("wide 00003 03", 0);
        good("wide 6 6" + times(";wood 0 0 0 0", 23), 0);
        good("wide 6 6;hill 0 0 1;hill 1 0 9;hill 2 0 1;hill 3 0 1;hill 4 0 1;hill 5 0 1;hill 0 1 1;hill 5 5 1", 8);
        good("wide 6 6" + times(";road 0 0 5 0", 6), 0);
        good("wide 2 2;sort 0;sort 4;sort 0;sort 0", 0);
        good("wide 2 2;road 1 1 1 1;road 0 0 0 1", 0);
    }

    private static void landBytes() {
        bad("", 0, 0);
        bad("   ", 3, 0);
        bad("Wide 3 3", 0, 0);
        bad("wid 3 3", 0, 0);
        bad("wider 3 3", 0, 0);
        bad(" tall 3 3", 1, 0);
        bad("3", 0, 0);
        bad("wide", 4, 0);
        bad("wide  ", 6, 0);
        bad("wide 3", 6, 0);
        bad("wide 3;", 6, 0);
        bad("wide x 3", 5, 0);
        bad("wide -3 3", 5, 0);
        bad("wide 3 3 3", 9, 0);
        bad("wide 3 3 333333", 9, 0);
        bad("wide 3 3 wood", 9, 0);
        bad("wide 3 3;", 9, 0);
        bad("wide 3 3; ", 10, 0);
        bad("wide 3 3;;", 9, 0);
        bad("wide 3 3\t", 8, 0);
        bad("wide 3 3\0", 8, 0);
        bad("wide 3 3" + (char) 233, 8, 0);
        bad(W + "apart 0 0 1", 9, 0);
        bad(W + "hill 0 0;", 17, 0);
        bad(W + "sort ", 14, 0);
    }

    private static void landNumbers() {
        bad("wide 1 3", 5, 1);
        bad("wide 7 3", 5, 1);
        bad("wide 3 1", 7, 1);
        bad("wide 3 7", 7, 1);
        bad("wide 33", 5, 1);
        bad("wide 000003 3", 5, 1);
        bad("wide 99999999999999999999 3", 5, 1);
        bad("wide 3 3333333333", 7, 1);
        bad(W + "wood 3 0 3 0", 14, 1);
        bad(W + "wood 0 3 0 3", 16, 1);
        bad(W + "wood 0 0 3 0", 18, 1);
        bad(W + "wood 0 0 0 3", 20, 1);
        bad(W + "wood 2 1 1 1", 18, 1);
        bad(W + "wood 2 1 2 0", 20, 1);
        bad(W + "road 2 1 1 1", 18, 1);
        bad(W + "road 2 1 2 0", 20, 1);
        bad(W + "hill 3 0 1", 14, 1);
        bad(W + "hill 0 3 1", 16, 1);
        bad(W + "hill 0 0 0", 18, 1);
        bad(W + "hill 0 0 10", 18, 1);
        bad(W + "sort 5", 14, 1);
        bad(W + "sort 4;sort 5", 21, 1);
        bad("wide 2 6;hill 2 5 1", 14, 1);
    }

    private static void landClauses() {
        bad("wood 0 0 0 0;wide 3 3", 0, 4);
        bad(" sort 9", 1, 4);
        bad(W + "wide 3 3", 9, 4);
        bad("wide 6 6" + times(";wood 0 0 0 0", 24), 8 + 13 * 23 + 1, 4);
        bad("wide 6 6" + times(";wood 0 0 0 0", 23) + ";wide", 8 + 13 * 23 + 1, 4);
        bad("wide 6 6" + times(";wood 0 0 0 0", 23) + ";", 8 + 13 * 23 + 1, 0);
        bad("wide 6 6" + times(";wood 0 0 0 0", 23) + "; woods", 8 + 13 * 23 + 2, 0);
        bad("wide 6 6" + times(";road 0 0 5 0", 6) + ";road", 8 + 13 * 6 + 1, 4);
        bad("wide 6 6" + times(";sort 0", 4) + ";sort 5", 8 + 7 * 4 + 1, 4);
        bad("wide 6 6;hill 0 0 1;hill 1 0 9;hill 2 0 1;hill 3 0 1;hill 4 0 1;hill 5 0 1;hill 0 1 1;hill 5 5 1;hill 5 5 1",
            97, 4);
    }

    private static void landSquares() {
        bad(W + "hill 1 1 1;hill 1 1 2", 25, 5);
        bad(W + "hill 1 1 1;hill  1 1 0", 26, 5);
        bad(W + "hill 1 1 1;hill 1 1", 25, 5);
        bad(W + "hill 1 1 1;hill 1 3 1", 27, 1);
        bad(W + "road 0 0 1 1", 14, 5);
        bad(W + "road 0 0 1 3", 20, 1);
        bad(W + "sort 3;sort 2", 21, 5);
        bad(W + "sort 4;sort 0;sort 1", 28, 5);
    }

    private static void goodLaws() {
        goodLaw("apart 0 3 5");
        goodLaw("bar0x=1");
        goodLaw(" bar 3 99999 < x ; apart 1 1 1 ");
        goodLaw("bar 0 x<=1or y>=2and x>1");
        goodLaw("bar 0 not[x=1]");
        goodLaw("bar 0 " + times("[", 10) + "x=1" + times("]", 10));
        goodLaw("bar 0 " + times("not ", 10) + "x=1");
        goodLaw("bar 0 " + times("not[", 5) + "x=1" + times("]", 5) + " or " + times("[not ", 5) + "x=1" + times("]", 5));
        goodLaw("bar 0 " + times("1+", 57) + "x<1");
        goodLaw("apart 0 0 1" + times(";apart 0 0 1", 11));
    }

    private static void lawBytes() {
        badLaw("", 0, 0);
        badLaw("wide 3 3", 0, 0);
        badLaw("bars 0 x=1", 0, 0);
        badLaw("apart 0 0", 9, 0);
        badLaw("apart 0 0 1 x", 12, 0);
        badLaw("apart 0 0 1;", 12, 0);
        badLaw("bar x=1", 4, 0);
        badLaw("bar 0;", 5, 0);
        badLaw("bar 0 x", 7, 0);
        badLaw("bar 0 x 1", 8, 0);
        badLaw("bar 0 x==1", 8, 0);
        badLaw("bar 0 x=<1", 8, 0);
        badLaw("bar 0 x< =1", 9, 0);
        badLaw("bar 0 x=1=1", 9, 0);
        badLaw("bar 0 x=1 y=1", 10, 0);
        badLaw("bar 0 x=1 and", 13, 0);
        badLaw("bar 0 x=1 andy=1", 10, 0);
        badLaw("bar 0 notx=1", 6, 0);
        badLaw("bar 0 not", 9, 0);
        badLaw("bar 0 or x=1", 6, 0);
        badLaw("bar 0 x+=1", 8, 0);
        badLaw("bar 0 x+not=1", 8, 0);
        badLaw("bar 0 -1=x", 6, 0);
        badLaw("bar 0 wood=1", 6, 0);
        badLaw("bar 0 X=1", 6, 0);
        badLaw("bar 0 [x=1", 10, 0);
        badLaw("bar 0 [x=1;", 10, 0);
        badLaw("bar 0 []", 7, 0);
        badLaw("bar 0 [x]=1", 8, 0);
        badLaw("bar 0 x=1]", 9, 0);
        badLaw("bar 0 x=[1]", 8, 0);
        badLaw("bar 0 (x=1)", 6, 0);
        badLaw("bar 0 x=1 not y=1", 10, 0);
    }

    private static void lawNumbers() {
        badLaw("apart 4 0 1", 6, 1);
        badLaw("apart 0 4 1", 8, 1);
        badLaw("apart 0 0 0", 10, 1);
        badLaw("apart 0 0 6", 10, 1);
        badLaw("apart 000000 0 1", 6, 1);
        badLaw("bar 4 x=1", 4, 1);
        badLaw("bar 100000", 4, 1);
        badLaw("bar 0 x=100000", 8, 1);
        badLaw("bar 0 000000=1", 6, 1);
    }

    private static void lawLimits() {
        badLaw("bar 0 " + times("[", 11), 16, 2);
        badLaw("bar 0 " + times("not ", 11), 46, 2);
        badLaw("bar 0 " + times("[ ", 10) + "not x=1", 26, 2);
        badLaw("bar 0 " + times("[", 10) + "x=1 and not", 24, 2);
        badLaw("bar 0 " + times("1+", 60) + "1", 126, 3);
        badLaw("bar 0 " + times("1+", 60) + "z", 126, 0);
        badLaw("bar 0 " + times("1+", 60) + "123456", 126, 1);
        badLaw("bar 0 " + times("1+", 59) + "1 = 1", 126, 3);
        badLaw("bar 0 " + times("1+", 59) + "1 ; 1", 126, 0);
        badLaw("bar 0 " + times("1+", 58) + "1=1", 6 + 116 + 2, 3);
        badLaw("bar 0 " + times("1=1 or ", 20) + "x=1", 6 + 140, 3);
        badLaw("apart 0 0 1" + times(";apart 0 0 1", 12), 12 * 12, 4);
        badLaw("apart 0 0 1" + times(";apart 0 0 1", 11) + ";part", 12 * 12, 0);
        badLaw("apart 0 0 1" + times(";apart 0 0 1", 11) + ";", 12 * 12, 0);
    }

    private static void whatStays() {
        MapsOfNothing m = Check.on("wide 3 2;hill 0 0 2;sort 1");
        m.note(0, 0, 0, 0, 0);
        Check.due("a bad land", Check.land(m, "wide 4 4;hill"), Check.fault(13, 0));
        Check.due("columns", m.count(0), 3);
        Check.due("hills", m.count(2), 1);
        Check.due("notes", m.count(6), 1);
        Check.due("layings", m.layings(0), 6);
        for (int i = 0; i < 4; i++) {
            Check.due("law", Check.law(m, "apart 0 0 1"), i);
        }
        Check.text(m, "nonsense");
        Check.due("a fifth law", m.law(), -1);
        Check.due("tape stays", m.count(10), 8);
        Check.due("laws", m.count(7), 4);
    }
}
