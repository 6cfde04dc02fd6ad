import java.util.List;
import java.util.Random;

/** Lands, laws and notes by lot: every answer is held against the plain one. */
public final class BruteTest {
    private static final String[] WORDS = {"x", "y", "woods", "seen", "hill", "road", "edge"};
    private static final String[] SIGNS = {"<", "<=", "=", ">=", ">"};

    private static Random lot;
    private static Plain plain;
    private static MapsOfNothing m;
    private static String told;
    /** How often there were so many columns, rows, things, and things of one sort: all must have come up. */
    private static final int[][] SEEN = new int[4][7];

    public static void main(String[] args) {
        for (int i = 0; i < 260; i++) {
            lot = Check.lot(i);
            run(i);
        }
        coverage();
        Check.finish("BruteTest");
    }

    private static void coverage() {
        for (int n = 2; n <= 6; n++) {
            Check.that("lands of " + n + " columns", SEEN[0][n] > 9);
            Check.that("lands of " + n + " rows", SEEN[1][n] > 9);
        }
        for (int n = 1; n <= 4; n++) {
            Check.that("lands of " + n + " things", SEEN[2][n] > 9);
            Check.that("lands of " + n + " things of a sort", SEEN[3][n] > 9);
        }
    }

    private static void tell(Plain land) {
        SEEN[0][land.w]++;
        SEEN[1][land.h]++;
        SEEN[2][land.thingSorts().length]++;
        for (int n : land.sorts) {
            SEEN[3][n]++;
        }
    }

    private static void due(String what, long got, long want) {
        Check.due(told + ": " + what, got, want);
    }

    private static void run(int number) {
        plain = new Plain();
        m = new MapsOfNothing();
        told = "run " + number;
        String text = land();
        tell(plain);
        due("land '" + text + "'", Check.land(m, text), plain.hills.size());
        if (number % 3 != 0) {
            String law = law();
            due("law '" + law + "'", Check.law(m, law), 0);
            m.stands(0);
        }
        squares();
        walks();
        for (int n = 0; n < 7; n++) {
            note();
        }
        for (int i = 0; i < 6; i++) {
            set(lot.nextInt(1 << plain.notes.size()));
        }
        set(0);
        set((1 << plain.notes.size()) - 1);
        quarrels();
    }

    private static int upTo(int most) {
        return lot.nextInt(most + 1);
    }

    private static String land() {
        StringBuilder text = new StringBuilder();
        int things = 1 + upTo(3);
        int most = things == 4 ? 2 : things == 3 ? 3 : 4;
        plain.w = 2 + upTo(most);
        plain.h = 2 + upTo(most);
        text.append("wide ").append(plain.w).append(' ').append(plain.h);
        int clauses = 3 + upTo(9);
        int left = things;
        for (int i = 0; i < clauses; i++) {
            int kind = lot.nextInt(8);
            int x = lot.nextInt(plain.w);
            int y = lot.nextInt(plain.h);
            if (kind < 2) {
                int x2 = x + lot.nextInt(Math.min(2, plain.w - x));
                int y2 = y + lot.nextInt(Math.min(2, plain.h - y));
                text.append(";wood " + x + " " + y + " " + x2 + " " + y2);
                for (int s = 0; s < 36; s++) {
                    plain.wood[s] |= s % 6 >= x && s % 6 <= x2 && s / 6 >= y && s / 6 <= y2;
                }
            } else if (kind < 5 && plain.hills.size() < 8) {
                boolean isFree = true;
                for (int[] hill : plain.hills) {
                    isFree &= hill[0] != x || hill[1] != y;
                }
                if (isFree) {
                    int far = 1 + upTo(4);
                    text.append(";hill " + x + " " + y + " " + far);
                    plain.hills.add(new int[] {x, y, far});
                }
            } else if (kind == 5 && plain.roads.size() < 6) {
                boolean flat = lot.nextBoolean();
                int x2 = flat ? x + lot.nextInt(plain.w - x) : x;
                int y2 = flat ? y : y + lot.nextInt(plain.h - y);
                text.append(";road " + x + " " + y + " " + x2 + " " + y2);
                plain.roads.add(new int[] {x, y, x2, y2});
            } else if (kind > 5 && plain.sorts.size() < 4) {
                int n = upTo(left);
                left -= n;
                text.append(";sort " + n);
                plain.sorts.add(n);
            }
        }
        if (plain.sorts.size() < 4 && lot.nextInt(8) > 0) {
            text.append(";sort " + left);
            plain.sorts.add(left);
        }
        return text.toString();
    }

    private static String law() {
        String text = tryLaw();
        while (PlainText.lawFault(text) != 0) {
            text = tryLaw();
        }
        return text;
    }

    private static String tryLaw() {
        StringBuilder text = new StringBuilder();
        plain.aparts.clear();
        plain.bars.clear();
        int clauses = 1 + upTo(2);
        for (int i = 0; i < clauses; i++) {
            if (i > 0) {
                text.append(" ; ");
            }
            if (lot.nextBoolean()) {
                int[] apart = {lot.nextInt(4), lot.nextInt(4), 1 + upTo(2)};
                text.append("apart " + apart[0] + " " + apart[1] + " " + apart[2]);
                plain.aparts.add(apart);
            } else {
                int sort = lot.nextInt(4);
                text.append("bar " + sort + " ");
                plain.bars.add(new Object[] {sort, test(text, 2)});
            }
        }
        return text.toString();
    }

    private static Object test(StringBuilder text, int depth) {
        Object tree = part(text, depth);
        for (int i = upTo(2); i > 0; i--) {
            text.append(" or ");
            tree = new Object[] {"or", tree, part(text, depth)};
        }
        return tree;
    }

    private static Object part(StringBuilder text, int depth) {
        Object tree = fact(text, depth);
        for (int i = upTo(2); i > 0; i--) {
            text.append(" and ");
            tree = new Object[] {"and", tree, fact(text, depth)};
        }
        return tree;
    }

    private static Object fact(StringBuilder text, int depth) {
        int kind = depth == 0 ? 3 : lot.nextInt(6);
        if (kind == 0) {
            text.append("not ");
            return new Object[] {"not", fact(text, depth - 1)};
        }
        if (kind == 1 && text.length() < 150) {
            text.append("[");
            Object tree = test(text, depth - 1);
            text.append("]");
            return new Object[] {"[", tree};
        }
        Object a = sum(text);
        String sign = SIGNS[lot.nextInt(5)];
        text.append(sign);
        return new Object[] {sign, a, sum(text)};
    }

    private static Object sum(StringBuilder text) {
        Object tree = term(text);
        for (int i = upTo(1) * upTo(2); i > 0; i--) {
            String sign = lot.nextBoolean() ? "+" : "-";
            text.append(sign);
            tree = new Object[] {sign, tree, term(text)};
        }
        return tree;
    }

    private static Object term(StringBuilder text) {
        Object tree = value(text);
        for (int i = upTo(1) * upTo(1); i > 0; i--) {
            String sign = lot.nextBoolean() ? "*" : "/";
            text.append(sign);
            tree = new Object[] {sign, tree, value(text)};
        }
        return tree;
    }

    private static Object value(StringBuilder text) {
        if (lot.nextInt(3) > 0) {
            String word = WORDS[lot.nextInt(7)];
            text.append(word);
            return word;
        }
        long n = lot.nextInt(5) == 0 ? lot.nextInt(100000) : lot.nextInt(4);
        text.append(n);
        return n;
    }

    private static void squares() {
        long hidden = 0;
        for (int y = 0; y < plain.h; y++) {
            for (int x = 0; x < plain.w; x++) {
                int s = 6 * y + x;
                int hill = -1;
                int barred = 0;
                for (int i = 0; i < plain.hills.size(); i++) {
                    hill = plain.hills.get(i)[0] == x && plain.hills.get(i)[1] == y ? i : hill;
                    due("sees " + i + " " + s, m.sees(i) >> s & 1, plain.hillSees(i, s) ? 1 : 0);
                }
                for (int i = 0; i < plain.sorts.size(); i++) {
                    barred |= plain.isBarred(i, s) ? 1 << i : 0;
                }
                hidden |= plain.word("seen", s) == 0 ? 1L << s : 0;
                due("wood " + s, m.square(x, y, 0), plain.isWood(x, y) ? 1 : 0);
                due("hill on " + s, m.square(x, y, 1), hill);
                due("hills that see " + s, m.square(x, y, 2), plain.word("seen", s));
                due("roads of " + s, m.square(x, y, 3), plain.word("road", s));
                due("woods beside " + s, m.square(x, y, 4), plain.word("woods", s));
                due("barred on " + s, m.square(x, y, 5), barred);
            }
        }
        due("hidden", m.hidden(), hidden);
    }

    private static void walks() {
        for (int i = 0; i < plain.hills.size(); i++) {
            for (int n = 0; n < 4; n++) {
                int set = lot.nextInt(1 << plain.hills.size());
                due("walk " + i + " " + set, m.walk(i, set), plain.walk(i, set));
            }
        }
    }

    private static void note() {
        int kind = lot.nextInt(4) == 0 ? 1 : 0;
        int many = kind == 0 ? plain.hills.size() : plain.roads.size();
        if (many == 0 || plain.sorts.isEmpty()) {
            return;
        }
        int[] it = {lot.nextInt(6), kind, lot.nextInt(many), lot.nextInt(plain.sorts.size()), lot.nextInt(5) - 1};
        due("note", m.note(it[0], it[1], it[2], it[3], it[4]), plain.notes.size());
        plain.notes.add(it);
    }

    private static void set(int set) {
        List<int[]> fitting = plain.fitting(set);
        due("layings " + set, m.layings(set), fitting.size());
        due("least " + set, m.least(set), plain.least(set));
        due("careless " + set, m.careless(set), plain.careless(set));
        due("trust " + set, m.trust(set), plain.trust(set));
        for (int i = 0; i < plain.notes.size(); i++) {
            int more = (set >> i & 1) == 0 ? -1 : plain.fitting(set & ~(1 << i)).size() > fitting.size() ? 1 : 0;
            due("news " + set + " " + i, m.news(set, i), more);
        }
        things(set, fitting);
        places(set, fitting);
        climbs(set, fitting);
        m.seed(lot.nextInt(1 << 30));
        long x = (m.count(9) * 1103515245L + 12345) & 0x7fffffff;
        due("drawn " + set, m.drawn(set), fitting.isEmpty() ? -2 : x / 65536 % fitting.size());
    }

    private static void things(int set, List<int[]> fitting) {
        for (int sort = 0; sort < plain.sorts.size(); sort++) {
            int x = lot.nextInt(plain.w);
            int y = lot.nextInt(plain.h);
            int n = plain.standing(fitting, sort, 6 * y + x);
            int all = fitting.size();
            String where = " " + set + " " + x + " " + y + " " + sort;
            due("may" + where, m.may(set, x, y, sort), n == 0 ? 0 : n == all ? 2 : 1);
            int above = m.odds(set, x, y, sort, 0);
            int below = m.odds(set, x, y, sort, 1);
            due("odds" + where, (long) above * all, (long) below * n);
            due("lowest" + where, java.math.BigInteger.valueOf(above).gcd(java.math.BigInteger.valueOf(below)).intValue(), 1);
            for (int i = 0; i <= 4; i++) {
                due("rows" + where + " " + i, m.rows(set, sort, y, i), plain.inRow(fitting, sort, y, i));
            }
        }
    }

    private static void places(int set, List<int[]> fitting) {
        int things = plain.thingSorts().length;
        int many = fitting.size();
        int[] places = {0, many - 1, many, -1 - lot.nextInt(50), lot.nextInt(many + 1), lot.nextInt(many + 1)};
        for (int place : places) {
            for (int k = 0; k < 4; k++) {
                boolean is = place >= 0 && place < fitting.size() && k < things;
                int due = is ? fitting.get(place)[k] : place < 0 ? -1 : -2;
                due("laying " + set + " " + place + " " + k, m.laying(set, place, k), due);
            }
        }
    }

    private static void climbs(int set, List<int[]> fitting) {
        int[] none = {-2, -2};
        int hills = plain.hills.size();
        for (int i = 0; i < hills; i++) {
            due("worst " + set + " " + i, m.worst(set, i), plain.worst(fitting, i));
            int bits = lot.nextInt(1 << plain.sorts.size());
            two("then " + set + " " + i + " " + bits, m.then(set, i, bits, 0), m.then(set, i, bits, 1),
                plain.then(fitting, i, bits));
        }
        two("next " + set, m.next(set, 0), m.next(set, 1), hills == 0 ? none : plain.next(fitting, -1));
        two("plan " + set, m.plan(set, 0), m.plan(set, 1), hills == 0 ? none : plain.plan(fitting));
        int far = 1 + upTo(8);
        int[] best = plain.fresh(fitting, far);
        two("fresh " + set + " " + far, m.fresh(set, far, 0), m.fresh(set, far, 1), best == null ? none : best);
    }

    private static void two(String what, int which, int bad, int[] best) {
        due(what + ", which", which, best[0]);
        due(what + ", worst", bad, best[1]);
    }

    private static void quarrels() {
        int n = plain.notes.size();
        for (int i = 0; i < n; i++) {
            for (int j = 0; j < n; j++) {
                boolean is = !plain.fitting(1 << i).isEmpty() && !plain.fitting(1 << j).isEmpty()
                    && plain.fitting(1 << i | 1 << j).isEmpty();
                due("quarrel " + i + " " + j, m.quarrel(i, j), i == j ? -1 : is ? 1 : 0);
            }
        }
    }
}
