import java.lang.management.ManagementFactory;

/** The dearest calls: no call makes objects, and all end soon; no arguments make the machine throw. */
public final class RoomTest {
    private static final String LAND = "wide 6 6;hill 0 0 2;hill 5 5 2;hill 0 5 3;hill 5 0 1;hill 2 2 1;hill 3 3 9"
        + ";hill 1 4 2;hill 4 1 2;road 0 3 5 3;sort 1;sort 1;sort 1;sort 1";
    private static final int[] ODD = {Integer.MIN_VALUE, -1000, -3, -2, -1, 0, 1, 2, 3, 4, 5, 6, 7, 9, 10, 31, 32, 63, 64,
        255, 256, 1023, 1024, 65535, 1 << 30, Integer.MAX_VALUE};

    private static long answers;

    public static void main(String[] args) {
        dearestCalls();
        oddArguments();
        Check.finish("RoomTest");
    }

    private static long allocated() {
        return ((com.sun.management.ThreadMXBean) ManagementFactory.getThreadMXBean())
            .getThreadAllocatedBytes(Thread.currentThread().getId());
    }

    private static void dearestCalls() {
        MapsOfNothing m = Check.on(LAND, "apart 0 1 2;bar 3 x=y and edge=0");
        for (int i = 0; i < 10; i++) {
            m.note(i % 6, 0, i % 8, i % 4, i % 5 - 1);
        }
        m.plan(0, 0);
        allocated();
        long before = allocated();
        long then = System.nanoTime();
        for (int i = 0; i < 3; i++) {
            m.stands(i % 2 - 1);
            ask(m, i);
        }
        long took = (System.nanoTime() - then) / 1000000;
        long made = allocated() - before;
        System.out.println("RoomTest: 3 rounds took " + took + " ms and made " + made + " bytes");
        Check.that("no call makes objects, " + made, made < 2000);
        Check.that("all end soon, " + took, took < 60000);
    }

    private static void ask(MapsOfNothing m, int set) {
        answers += m.layings(set) + m.may(set, 1, 1, 1) + m.odds(set, 2, 2, 3, 1) + m.laying(set, 30000, 3);
        answers += m.rows(set, 2, 3, 1) + m.news(1 | set, 0) + m.quarrel(0, 1) + m.least(1023) + m.careless(1023);
        answers += m.trust(1023) + m.worst(set, 3) + m.next(set, 0) + m.then(set, 1, 3, 0) + m.plan(set, 1);
        answers += m.fresh(set, 2, 0) + m.walk(1, 255) + m.drawn(set) + m.image(set) + m.back(set) + m.hidden();
        m.feed(1, 2, 3, 4, 5);
        answers += m.land() + m.law();
    }

    private static void oddArguments() {
        for (int state = 0; state < 4; state++) {
            MapsOfNothing m = state == 3 ? full() : new MapsOfNothing();
            if (state == 1 || state == 2) {
                Check.land(m, state == 1 ? "wide 2 2" : "wide 3 2;hill 0 0 1;hill 2 1 1;road 0 0 1 0;sort 1;sort 0;sort 1");
                m.note(0, 0, 0, 0, 0);
                m.note(1, 1, 0, 2, -1);
            }
            for (int a : ODD) {
                one(m, a);
                for (int b : ODD) {
                    two(m, a, b);
                    for (int c : ODD) {
                        three(m, a, b, c);
                    }
                }
            }
        }
        Check.that("no call throws", true);
    }

    /** All that there can be most of: hills, roads, sorts, notes, laws and images. */
    private static MapsOfNothing full() {
        MapsOfNothing m = Check.on("wide 6 6;hill 0 0 2;hill 5 5 9;hill 0 5 3;hill 5 0 1;hill 2 2 1;hill 3 3 9;hill 1 4 2"
            + ";hill 4 1 2;road 0 3 5 3;road 0 0 0 5;road 5 0 5 5;road 0 5 5 5;road 1 1 1 1;road 2 0 2 5"
            + ";sort 1;sort 1;sort 0;sort 0", "apart 0 1 5;bar 3 x=y and edge=0");
        for (int i = 1; i < 4; i++) {
            Check.due("a law", Check.law(m, "bar " + i + " woods=0"), i);
        }
        for (int i = 0; i < 10; i++) {
            Check.due("a note", m.note(i % 6, i % 2, i % 2 == 0 ? 7 - i / 2 : 5 - i / 2, i % 4, i % 4), i);
        }
        for (int i = 0; i < 4; i++) {
            Check.due("an image", m.image(i), 10);
        }
        return m;
    }

    private static void one(MapsOfNothing m, int a) {
        answers += m.end(a) + m.stands(a) + m.sees(a) + m.layings(a) + m.least(a) + m.careless(a) + m.trust(a);
        answers += m.seed(a) + m.drawn(a) + m.count(a) + m.feed(a, a, a, a, a);
        Check.that("image " + a, m.image(a) >= -1);
        Check.that("back " + a, m.back(a) >= -1);
    }

    private static void two(MapsOfNothing m, int a, int b) {
        answers += m.notes(a, b) + m.news(a, b) + m.quarrel(a, b) + m.worst(a, b) + m.next(a, b) + m.plan(a, b) + m.walk(a, b);
    }

    private static void three(MapsOfNothing m, int a, int b, int c) {
        answers += m.square(a, b, c) + m.laying(a, b, c) + m.fresh(a, b, c);
        answers += m.may(0, a, b, c) + m.rows(0, a, b, c) + m.then(0, a, b, c) + m.odds(0, a, b, c, 1);
        answers += m.may(a, b, c, 0) + m.rows(a, b, 0, c) + m.then(a, b, c, 0);
        if (m.count(6) < 5) {
            answers += m.note(a, b, c, 0, 0) + m.note(0, 0, a, b, c);
        }
    }
}
