import java.util.ArrayList;
import java.util.List;

/** The document's words once more, as plainly as can be and without regard to time: what answers are held against. */
final class Plain {
    int w;
    int h;
    boolean[] wood = new boolean[36];
    List<int[]> hills = new ArrayList<>();
    List<int[]> roads = new ArrayList<>();
    List<Integer> sorts = new ArrayList<>();
    List<int[]> aparts = new ArrayList<>();
    List<Object[]> bars = new ArrayList<>();
    List<int[]> notes = new ArrayList<>();
    private List<int[]> all;

    boolean isWood(int x, int y) {
        for (int[] hill : hills) {
            if (hill[0] == x && hill[1] == y) {
                return false;
            }
        }
        return wood[6 * y + x];
    }

    boolean sees(int hx, int hy, int far, int x, int y) {
        int n = distance(6 * hy + hx, 6 * y + x);
        if (n > far) {
            return false;
        }
        for (int k = 1; k <= n - 1; k++) {
            int bx = hx + (int) Math.floor((2.0 * k * (x - hx) + n) / (2.0 * n));
            int by = hy + (int) Math.floor((2.0 * k * (y - hy) + n) / (2.0 * n));
            if (isWood(bx, by)) {
                return false;
            }
        }
        return true;
    }

    boolean hillSees(int hill, int square) {
        int[] it = hills.get(hill);
        return sees(it[0], it[1], it[2], square % 6, square / 6);
    }

    boolean isOfRoad(int road, int square) {
        int[] it = roads.get(road);
        int x = square % 6;
        int y = square / 6;
        return x >= it[0] && x <= it[2] && y >= it[1] && y <= it[3];
    }

    static int distance(int a, int b) {
        return Math.max(Math.abs(a % 6 - b % 6), Math.abs(a / 6 - b / 6));
    }

    boolean inLand(int x, int y) {
        return x >= 0 && x < w && y >= 0 && y < h;
    }

    long word(String word, int square) {
        int x = square % 6;
        int y = square / 6;
        long n = 0;
        switch (word) {
            case "x":
                return x;
            case "y":
                return y;
            case "woods":
                for (int i = -1; i <= 1; i++) {
                    for (int j = -1; j <= 1; j++) {
                        n += (i != 0 || j != 0) && inLand(x + i, y + j) && isWood(x + i, y + j) ? 1 : 0;
                    }
                }
                return n;
            case "seen":
                for (int i = 0; i < hills.size(); i++) {
                    n += hillSees(i, square) ? 1 : 0;
                }
                return n;
            case "hill":
                for (int[] hill : hills) {
                    n += hill[0] == x && hill[1] == y ? 1 : 0;
                }
                return n;
            case "road":
                for (int i = 0; i < roads.size(); i++) {
                    n += isOfRoad(i, square) ? 1 : 0;
                }
                return n;
            default:
                return Math.min(Math.min(x, y), Math.min(w - 1 - x, h - 1 - y));
        }
    }

    /** A TEST as a tree: strings of words and numbers, and rows of a sign and its sides. */
    long value(Object tree, int square) {
        if (tree instanceof Long) {
            return (Long) tree;
        }
        if (tree instanceof String) {
            return word((String) tree, square);
        }
        Object[] it = (Object[]) tree;
        long a = value(it[1], square);
        if (it[0].equals("not")) {
            return a == 0 ? 1 : 0;
        }
        if (it[0].equals("[")) {
            return a;
        }
        long b = value(it[2], square);
        switch ((String) it[0]) {
            case "+":
                return a + b;
            case "-":
                return a - b;
            case "*":
                return a * b;
            case "/":
                return b == 0 ? 0 : a / b;
            case "<":
                return a < b ? 1 : 0;
            case "<=":
                return a <= b ? 1 : 0;
            case "=":
                return a == b ? 1 : 0;
            case ">=":
                return a >= b ? 1 : 0;
            case ">":
                return a > b ? 1 : 0;
            case "and":
                return a != 0 && b != 0 ? 1 : 0;
            default:
                return a != 0 || b != 0 ? 1 : 0;
        }
    }

    boolean isBarred(int sort, int square) {
        for (Object[] bar : bars) {
            if ((Integer) bar[0] == sort && value(bar[1], square) != 0) {
                return true;
            }
        }
        return false;
    }

    int[] thingSorts() {
        List<Integer> list = new ArrayList<>();
        for (int i = 0; i < sorts.size(); i++) {
            for (int j = 0; j < sorts.get(i); j++) {
                list.add(i);
            }
        }
        int[] of = new int[list.size()];
        for (int i = 0; i < of.length; i++) {
            of[i] = list.get(i);
        }
        return of;
    }

    /** All layings by the law, in their order. */
    List<int[]> layings() {
        if (all == null) {
            all = new ArrayList<>();
            lay(thingSorts(), 0, new int[thingSorts().length]);
            all.sort((a, b) -> {
                for (int i = 0; i < a.length; i++) {
                    if (a[i] != b[i]) {
                        return Integer.compare(a[i], b[i]);
                    }
                }
                return 0;
            });
        }
        return all;
    }

    void forget() {
        all = null;
    }

    private void lay(int[] of, int thing, int[] at) {
        if (thing == of.length) {
            if (isLawful(of, at)) {
                all.add(at.clone());
            }
            return;
        }
        for (int square = 35; square >= 0; square--) {
            if (inLand(square % 6, square / 6) && !isWood(square % 6, square / 6)) {
                at[thing] = square;
                lay(of, thing + 1, at);
            }
        }
    }

    private boolean isLawful(int[] of, int[] at) {
        for (int i = 0; i < at.length; i++) {
            if (isBarred(of[i], at[i])) {
                return false;
            }
            for (int j = i + 1; j < at.length; j++) {
                if (at[i] == at[j] || of[i] == of[j] && at[i] > at[j]) {
                    return false;
                }
                for (int[] apart : aparts) {
                    boolean isPair = apart[0] == of[i] && apart[1] == of[j] || apart[0] == of[j] && apart[1] == of[i];
                    if (isPair && distance(at[i], at[j]) < apart[2]) {
                        return false;
                    }
                }
            }
        }
        return true;
    }

    boolean fits(int[] laying, int note) {
        int[] it = notes.get(note);
        int[] of = thingSorts();
        int n = 0;
        for (int i = 0; i < laying.length; i++) {
            if (of[i] == it[3] && (it[1] == 0 ? hillSees(it[2], laying[i]) : isOfRoad(it[2], laying[i]))) {
                n++;
            }
        }
        return it[4] < 0 ? n >= 1 : n <= it[4];
    }

    List<int[]> fitting(int set) {
        List<int[]> list = new ArrayList<>();
        for (int[] laying : layings()) {
            boolean good = true;
            for (int i = 0; i < notes.size() && good; i++) {
                good = (set >> i & 1) == 0 || fits(laying, i);
            }
            if (good) {
                list.add(laying);
            }
        }
        return list;
    }

    int standing(List<int[]> layings, int sort, int square) {
        int n = 0;
        int[] of = thingSorts();
        for (int[] laying : layings) {
            for (int i = 0; i < of.length; i++) {
                n += of[i] == sort && laying[i] == square ? 1 : 0;
            }
        }
        return n;
    }

    int inRow(List<int[]> layings, int sort, int y, int n) {
        int many = 0;
        int[] of = thingSorts();
        for (int[] laying : layings) {
            int there = 0;
            for (int i = 0; i < of.length; i++) {
                there += of[i] == sort && laying[i] / 6 == y ? 1 : 0;
            }
            many += there == n ? 1 : 0;
        }
        return many;
    }

    private static boolean isBetter(int set, int best) {
        return best < 0 || Integer.bitCount(set) < Integer.bitCount(best)
            || Integer.bitCount(set) == Integer.bitCount(best) && set < best;
    }

    int least(int set) {
        int best = -1;
        int many = fitting(set).size();
        for (int part = 1023; part >= 0; part--) {
            if ((part & ~set) == 0 && fitting(part).size() == many && isBetter(part, best)) {
                best = part;
            }
        }
        return best;
    }

    int careless(int set) {
        int best = -2;
        for (int out = 1023; out >= 0; out--) {
            if ((out & ~set) == 0 && !fitting(set & ~out).isEmpty() && isBetter(out, best)) {
                best = out;
            }
        }
        return best;
    }

    int trust(int set) {
        int best = -2;
        for (int out = 63; out >= 0; out--) {
            int rest = set;
            for (int i = 0; i < notes.size(); i++) {
                rest &= (out >> notes.get(i)[0] & 1) != 0 ? ~(1 << i) : -1;
            }
            if (!fitting(rest).isEmpty() && isBetter(out, best)) {
                best = out;
            }
        }
        return best;
    }

    /** What one is told on a square with a far: the sorts one sees none of. */
    int told(int[] laying, int x, int y, int far) {
        int[] of = thingSorts();
        int bits = (1 << sorts.size()) - 1;
        for (int i = 0; i < of.length; i++) {
            if (sees(x, y, far, laying[i] % 6, laying[i] / 6)) {
                bits &= ~(1 << of[i]);
            }
        }
        return bits;
    }

    int told(int[] laying, int hill) {
        int[] it = hills.get(hill);
        return told(laying, it[0], it[1], it[2]);
    }

    int worst(List<int[]> layings, int x, int y, int far) {
        int[] many = new int[16];
        int most = 0;
        for (int[] laying : layings) {
            int t = told(laying, x, y, far);
            many[t]++;
            most = Math.max(most, many[t]);
        }
        return most;
    }

    int worst(List<int[]> layings, int hill) {
        int[] it = hills.get(hill);
        return worst(layings, it[0], it[1], it[2]);
    }

    int[] next(List<int[]> layings, int butNot) {
        int[] best = null;
        for (int i = 0; i < hills.size(); i++) {
            int bad = worst(layings, i);
            if ((i != butNot || hills.size() == 1) && (best == null || bad < best[1])) {
                best = new int[] {i, bad};
            }
        }
        return best;
    }

    int[] then(List<int[]> layings, int hill, int none) {
        List<int[]> list = new ArrayList<>();
        for (int[] laying : layings) {
            if (told(laying, hill) == none) {
                list.add(laying);
            }
        }
        return next(list, hill);
    }

    int[] plan(List<int[]> layings) {
        int[] best = null;
        for (int i = 0; i < hills.size(); i++) {
            int most = 0;
            for (int none = 0; none < 1 << sorts.size(); none++) {
                most = Math.max(most, then(layings, i, none)[1]);
            }
            if (best == null || most < best[1]) {
                best = new int[] {i, most};
            }
        }
        return best;
    }

    int[] fresh(List<int[]> layings, int far) {
        int[] best = null;
        for (int y = 0; y < h; y++) {
            for (int x = 0; x < w; x++) {
                if (!isWood(x, y)) {
                    int bad = worst(layings, x, y, far);
                    if (best == null || bad < best[1]) {
                        best = new int[] {6 * y + x, bad};
                    }
                }
            }
        }
        return best;
    }

    /** Step by step over squares and hills that one has been on. */
    int walk(int hill, int set) {
        boolean[] been = new boolean[36 * 256];
        List<Integer> now = new ArrayList<>();
        int from = 6 * hills.get(hill)[1] + hills.get(hill)[0];
        now.add(from * 256 + (set & 1 << hill));
        for (int steps = 0; !now.isEmpty(); steps++) {
            List<Integer> later = new ArrayList<>();
            for (int s : now) {
                if (been[s]) {
                    continue;
                }
                been[s] = true;
                if (s % 256 == set) {
                    return steps;
                }
                int x = s / 256 % 6;
                int y = s / 256 / 6;
                for (int i = -1; i <= 1; i++) {
                    for (int j = -1; j <= 1; j++) {
                        if (inLand(x + i, y + j) && !isWood(x + i, y + j)) {
                            int bits = s % 256;
                            for (int k = 0; k < hills.size(); k++) {
                                bits |= hills.get(k)[0] == x + i && hills.get(k)[1] == y + j ? set & 1 << k : 0;
                            }
                            later.add((6 * (y + j) + x + i) * 256 + bits);
                        }
                    }
                }
            }
            now = later;
        }
        return -2;
    }
}
