import java.util.ArrayList;
import java.util.List;
import java.util.Random;

/** An object with a long history answers as a new one that is told at once what has come of it. */
public final class HistoryTest {
    private static final String[] LANDS = {
        "wide 3 3;wood 0 0 1 0;hill 2 2 4;hill 0 1 1;road 0 0 0 2;sort 2;sort 1",
        "wide 6 2;hill 5 1 9;hill 0 0 1;sort 1;road 1 1 5 1;wood 3 0 3 0;hill 1 0 2;sort 0;sort 1",
        "wide 2 6;sort 0;sort 1;sort 1;hill 1 5 3;hill 0 2 3;road 0 0 1 0;road 1 0 1 5;wood 0 0 1 1",
        "wide 2 2;hill 0 0 1;sort 4;road 0 0 0 1",
        "wide 2 2;hill"};
    private static final String[] LAWS = {"apart 0 1 2", "bar 0 x=1;bar 1 seen<1", "bar 2 road>0 or y=0;apart 0 0 2", "bar 0 0=0"};

    /** What has come of it: kept as it was told. */
    private static final class Told {
        String land = "";
        List<int[]> notes = new ArrayList<>();
        int stands = -1;
        int x;

        Told copy() {
            Told t = new Told();
            t.land = land;
            t.notes = new ArrayList<>(notes);
            t.stands = stands;
            t.x = x;
            return t;
        }
    }

    private static Random lot;
    private static Told now;
    private static int laws;

    public static void main(String[] args) {
        for (int run = 0; run < 60; run++) {
            lot = Check.lot(run);
            history(run);
        }
        Check.finish("HistoryTest");
    }

    private static void history(int run) {
        MapsOfNothing m = new MapsOfNothing();
        Told[] images = new Told[4];
        now = new Told();
        laws = 0;
        for (int i = 0; i < 60; i++) {
            change(m, images, lot.nextInt(20));
            compare("run " + run + " change " + i, m, anew());
        }
    }

    private static void change(MapsOfNothing m, Told[] images, int kind) {
        int k = lot.nextInt(4);
        if (kind < 2) {
            String land = LANDS[lot.nextInt(LANDS.length)];
            if (Check.land(m, land) >= 0) {
                now.land = land;
                now.notes.clear();
            }
        } else if (kind < 4 && laws < 4) {
            Check.due("law", Check.law(m, LAWS[laws]), laws);
            laws++;
        } else if (kind < 7) {
            int law = lot.nextInt(5) - 1;
            int stood = m.stands(law);
            Check.due("stood", stood, law < laws ? now.stands : -2);
            now.stands = law < laws ? law : now.stands;
        } else if (kind < 10) {
            Check.due("image", m.image(k), now.notes.size());
            images[k] = now.copy();
        } else if (kind < 12) {
            Check.due("back", m.back(k), images[k] == null ? -1 : images[k].notes.size());
            now = images[k] == null ? now : images[k].copy();
        } else if (kind == 12) {
            int x = lot.nextInt(1 << 20) - 100;
            Check.due("seed", m.seed(x), x < 0 ? -1 : now.x);
            now.x = x < 0 ? now.x : x;
        } else {
            int[] note = {lot.nextInt(6), lot.nextInt(2), lot.nextInt(2), lot.nextInt(3), lot.nextInt(5) - 1};
            if (m.note(note[0], note[1], note[2], note[3], note[4]) >= 0) {
                now.notes.add(note);
            }
        }
    }

    private static MapsOfNothing anew() {
        MapsOfNothing m = new MapsOfNothing();
        if (!now.land.isEmpty()) {
            Check.land(m, now.land);
        }
        for (int i = 0; i < laws; i++) {
            Check.law(m, LAWS[i]);
        }
        m.stands(now.stands);
        m.seed(now.x);
        for (int[] n : now.notes) {
            m.note(n[0], n[1], n[2], n[3], n[4]);
        }
        return m;
    }

    private static void compare(String when, MapsOfNothing a, MapsOfNothing b) {
        for (int i = 0; i < 10; i++) {
            Check.due(when + " count " + i, a.count(i), b.count(i));
        }
        int all = (1 << now.notes.size()) - 1;
        int set = lot.nextInt(all + 1);
        int far = 1 + lot.nextInt(9);
        for (int s : new int[] {0, set, all}) {
            String of = when + " of " + s + " ";
            Check.due(of + "layings", a.layings(s), b.layings(s));
            Check.due(of + "may", a.may(s, 1, 1, 0), b.may(s, 1, 1, 0));
            Check.due(of + "odds", a.odds(s, 1, 1, 1, 1), b.odds(s, 1, 1, 1, 1));
            Check.due(of + "laying", a.laying(s, 5, 1), b.laying(s, 5, 1));
            Check.due(of + "rows", a.rows(s, 0, 1, 1), b.rows(s, 0, 1, 1));
            Check.due(of + "least", a.least(s), b.least(s));
            Check.due(of + "careless", a.careless(s), b.careless(s));
            Check.due(of + "trust", a.trust(s), b.trust(s));
            Check.due(of + "worst", a.worst(s, 0), b.worst(s, 0));
            Check.due(of + "next", a.next(s, 0), b.next(s, 0));
            Check.due(of + "next", a.next(s, 1), b.next(s, 1));
            Check.due(of + "then", a.then(s, 0, 1, 1), b.then(s, 0, 1, 1));
            Check.due(of + "plan", a.plan(s, 0), b.plan(s, 0));
            Check.due(of + "plan", a.plan(s, 1), b.plan(s, 1));
            Check.due(of + "fresh", a.fresh(s, far, 0), b.fresh(s, far, 0));
            Check.due(of + "fresh", a.fresh(s, far, 1), b.fresh(s, far, 1));
        }
        for (int i = 0; i < 36 * 6; i++) {
            Check.due(when + " square " + i, a.square(i / 36, i / 6 % 6, i % 6), b.square(i / 36, i / 6 % 6, i % 6));
        }
        Check.due(when + " sees", a.sees(1), b.sees(1));
        Check.due(when + " walk", a.walk(0, 3), b.walk(0, 3));
        Check.due(when + " hidden", a.hidden(), b.hidden());
        for (int i = 0; i < 10; i++) {
            Check.due(when + " note", a.notes(i, i % 5), b.notes(i, i % 5));
        }
        int place = a.drawn(set);
        Check.due(when + " drawn", place, b.drawn(set));
        now.x = a.count(9);
    }
}
