import java.util.Random;

/** What the tests share: texts fed as numbers, and answers held against those that are due. */
final class Check {
    private static int wrong;
    private static int held;

    private Check() {
    }

    static void due(String what, long got, long want) {
        held++;
        if (got != want) {
            wrong++;
            if (wrong <= 40) {
                System.out.println(what + " answered " + got + ", due is " + want);
            }
        }
    }

    static void that(String what, boolean holds) {
        due(what, holds ? 1 : 0, 1);
    }

    static void finish(String name) {
        System.out.println(name + ": " + held + " answers, " + wrong + " not as due");
        if (wrong != 0) {
            System.exit(1);
        }
    }

    /** A lot of its own for each run: seeds that are near one another begin nearly alike, so they are spread. */
    static Random lot(int run) {
        Random lot = new Random(run * 0x9E3779B97F4A7C15L + 12345);
        for (int i = 0; i < 8; i++) {
            lot.nextInt();
        }
        return lot;
    }

    /** Puts a text on the tape, in place of what was there. */
    static void text(MapsOfNothing m, String text) {
        m.end(0);
        for (int i = 0; i < text.length(); i += 20) {
            m.feed(number(text, i), number(text, i + 4), number(text, i + 8), number(text, i + 12), number(text, i + 16));
        }
        m.end(text.length());
    }

    private static int number(String text, int from) {
        int n = 0;
        for (int i = from; i < from + 4; i++) {
            n = n << 8 | (i < text.length() ? text.charAt(i) & 255 : 0);
        }
        return n;
    }

    static int land(MapsOfNothing m, String text) {
        text(m, text);
        return m.land();
    }

    static int law(MapsOfNothing m, String text) {
        text(m, text);
        return m.law();
    }

    static MapsOfNothing on(String land) {
        MapsOfNothing m = new MapsOfNothing();
        that("land: " + land, land(m, land) >= 0);
        return m;
    }

    /** On a land under a law. */
    static MapsOfNothing on(String land, String law) {
        MapsOfNothing m = on(land);
        due("law: " + law, law(m, law), 0);
        m.stands(0);
        return m;
    }

    static int fault(int place, int code) {
        return -2 - (1 + 8 * place + code);
    }
}
