import java.util.Random;

/** Texts by lot, most of them a little wrong: the fault is held against the plain grammar's. */
public final class TextLotTest {
    private static final String[] LANDS = {
        "wide 3 3;wood 0 0 1 1;hill 2 2 4;road 0 0 0 2;sort 2;sort 1",
        "wide 6 2 ; hill 5 1 9;hill 0 0 1; sort 4;road 1 1 5 1;wood 3 0 3 1;hill 1 0 2",
        "wide 2 6;sort 0;sort 1;sort 1;sort 2;hill 1 5 3;hill 0 5 3;wood 0 0 1 4",
        "wide 6 6;hill 0 0 1;hill 1 0 1;hill 2 0 1;hill 3 0 1;hill 4 0 1;hill 5 0 1;hill 0 1 1;hill 1 1 1;road 2 2 5 2"};
    private static final String[] LAWS = {
        "apart 0 1 2;bar 0 x=1 and y<2 or not seen>=1;bar 3 [x+1*2/y<=edge or hill=1] and road>0",
        "bar 1 [[not [x=1 and woods>2]]]or 12345=99999/0;apart 2 2 5",
        "bar 0 not not not not not not not not not not x=y",
        "bar 2 [[[[[[[[[[x<y]]]]]]]]]] and x-y-1=2;apart 0 0 1",
        "bar 0 1+1+1+1+1+1+1+1+1+1+1+1+1+1+1+1+1+1+1+1=1+1+1+1+1+1+1+1+1+1+1+1+1+1+1+1+1+1+1+1;bar 1 x*x*x*x*x*x*x*x*x*x*x*x*x*x*x=1",
        "apart 0 0 1;apart 0 0 1;apart 0 0 1;apart 0 0 1;apart 0 0 1;apart 0 0 1;bar 0 x=1;bar 0 x=1;bar 0 x=1;bar 0 x=1;bar 0 x=1;bar 0 x=1"};
    private static final String SIGNS = "  ;;0123456789abxy[]<>=+-*/WZ!\0\u00e9";
    private static final String[] PIECES = {"wide ", "hill 0 0 1", ";hill", ";wood 1 1 2 2", " not ", "[", "]", " and ", " or ",
        "<=", ">=", ";road 0 0 1 1", ";sort 1", ";bar 0 ", ";apart 1 2 3", "x", " ", "99999", "100000", "+1", "="};

    public static void main(String[] args) {
        Random lot = new Random(5);
        int goods = 0;
        for (int i = 0; i < 60000; i++) {
            String land = spoil(lot, LANDS[lot.nextInt(LANDS.length)]);
            int fault = PlainText.landFault(land);
            int got = Check.land(new MapsOfNothing(), land);
            if (fault == 0) {
                Check.that("land '" + land + "' " + got, got >= 0);
                goods++;
            } else {
                Check.due("land '" + land + "'", got, -2 - fault);
            }
            String law = spoil(lot, LAWS[lot.nextInt(LAWS.length)]);
            fault = PlainText.lawFault(law);
            Check.due("law '" + law + "'", Check.law(new MapsOfNothing(), law), fault == 0 ? 0 : -2 - fault);
        }
        Check.that("some texts are good", goods > 1000);
        Check.finish("TextLotTest");
    }

    private static String spoil(Random lot, String text) {
        StringBuilder s = new StringBuilder(text);
        for (int i = lot.nextInt(4); i > 0; i--) {
            int at = lot.nextInt(s.length() + 1);
            int kind = lot.nextInt(5);
            if (kind == 0) {
                s.insert(at, SIGNS.charAt(lot.nextInt(SIGNS.length())));
            } else if (kind == 1 && at < s.length()) {
                s.setCharAt(at, SIGNS.charAt(lot.nextInt(SIGNS.length())));
            } else if (kind == 2 && at < s.length()) {
                s.deleteCharAt(at);
            } else if (kind == 3) {
                s.insert(at, PIECES[lot.nextInt(PIECES.length)]);
            } else if (lot.nextInt(6) == 0) {
                s.setLength(at);
            }
        }
        if (s.length() > 400) {
            s.setLength(400);
        }
        return s.toString();
    }
}
