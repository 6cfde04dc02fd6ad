import java.util.Arrays;

/**
 * Maps of what is not there: lands, laws of where things may stand, and notes of what was not seen.
 *
 * <p>Squares are bits of a long everywhere, 6 * y + x, whatever the width of the land. No call makes
 * an object, but for one row, made once: all others are made with the object itself.
 */
public final class MapsOfNothing {
    public static final int NONE = -1;

    private static final int WITHOUT = -2;
    private static final int MOST_HILLS = 8;
    private static final int MOST_ROADS = 6;
    private static final int MOST_SORTS = 4;
    private static final int MOST_THINGS = 4;
    private static final int MOST_NOTES = 10;
    private static final int MOST_LAWS = 4;
    private static final int MOST_IMAGES = 4;
    private static final int SQUARES = 36;
    /** Far above the 1413720 layings of four unlike things, which no search goes beyond. */
    private static final int MOST_STEPS = 2000000;

    private final Tape tape = new Tape();
    private final State now = new State();
    private final State[] images = new State[MOST_IMAGES];
    private final boolean[] made = new boolean[MOST_IMAGES];
    private final Law[] laws = new Law[MOST_LAWS];
    private int lawsTold;
    private final Land draft = new Land();
    private final LandReader landReader = new LandReader(tape, draft);
    private final LawReader lawReader = new LawReader(tape);
    private final Search search = new Search(now);
    private final Fits fits = new Fits();
    private final Climbs climbs = new Climbs();
    private final Walks walks = new Walks();
    /** Goes up with every change that layings depend on, so that kept answers are known to be old. */
    private int version = 1;
    private int searchVersion;

    public MapsOfNothing() {
        for (int i = 0; i < MOST_IMAGES; i++) {
            images[i] = new State();
        }
        for (int i = 0; i < MOST_LAWS; i++) {
            laws[i] = new Law();
        }
    }

    public int feed(int a, int b, int c, int d, int e) {
        if (tape.length + 20 > Tape.MOST) {
            return NONE;
        }
        tape.append(a);
        tape.append(b);
        tape.append(c);
        tape.append(d);
        tape.append(e);
        return tape.length;
    }

    public int end(int n) {
        if (n < 0 || n > tape.length) {
            return NONE;
        }
        tape.length = n;
        return n;
    }

    public int land() {
        int fault = landReader.read();
        tape.length = 0;
        if (fault != 0) {
            return WITHOUT - fault;
        }
        now.land.copy(draft);
        now.notes = 0;
        version++;
        return now.land.hills;
    }

    public int law() {
        if (lawsTold >= MOST_LAWS) {
            return NONE;
        }
        int fault = lawReader.read(laws[lawsTold]);
        tape.length = 0;
        if (fault != 0) {
            return WITHOUT - fault;
        }
        lawsTold++;
        return lawsTold - 1;
    }

    public int stands(int law) {
        if (law < NONE || law >= lawsTold) {
            return WITHOUT;
        }
        int stood = now.stands;
        now.stands = law;
        version++;
        return stood;
    }

    public int note(int surveyor, int kind, int which, int sort, int sure) {
        if (now.notes >= MOST_NOTES || !within(surveyor, 6) || !within(kind, 2) || sure < -1 || sure > 3) {
            return NONE;
        }
        if (!within(which, kind == 0 ? now.land.hills : now.land.roads) || !within(sort, now.land.sorts)) {
            return NONE;
        }
        now.write(surveyor, kind, which, sort, sure);
        version++;
        return now.notes - 1;
    }

    public int square(int x, int y, int what) {
        Land land = now.land;
        if (!land.holds(x, y)) {
            return NONE;
        }
        int square = 6 * y + x;
        switch (what) {
            case 0:
                return (land.wood >>> square & 1) != 0 ? 1 : 0;
            case 1:
                return land.hillOn(square);
            case 2:
                return land.hillsThatSee(square);
            case 3:
                return land.roadsOf(square);
            case 4:
                return land.woodsBeside(square);
            case 5:
                prepare();
                return search.barredAt(square);
            default:
                return NONE;
        }
    }

    public long sees(int hill) {
        return within(hill, now.land.hills) ? now.land.sees[hill] : NONE;
    }

    public long hidden() {
        Land land = now.land;
        if (!land.told()) {
            return NONE;
        }
        long squares = land.inside;
        for (int i = 0; i < land.hills; i++) {
            squares &= ~land.sees[i];
        }
        return squares;
    }

    public int notes(int note, int what) {
        return within(note, now.notes) && within(what, State.FACTS) ? now.fact(note, what) : WITHOUT;
    }

    public int layings(int notes) {
        return known(notes) ? howMany(notes) : NONE;
    }

    public int may(int notes, int x, int y, int sort) {
        if (!known(notes) || !now.land.holds(x, y) || !within(sort, now.land.sorts)) {
            return NONE;
        }
        prepare();
        search.tally(notes, sort, Grid.bit(x, y));
        if (search.tallied[1] == 0) {
            return 0;
        }
        return search.tallied[0] == 0 ? 2 : 1;
    }

    public int odds(int notes, int x, int y, int sort, int part) {
        if (!known(notes) || !now.land.holds(x, y) || !within(sort, now.land.sorts) || !within(part, 2)) {
            return NONE;
        }
        prepare();
        search.tally(notes, sort, Grid.bit(x, y));
        int above = search.tallied[1];
        int below = above + search.tallied[0];
        int common = commonDivisor(above, below);
        if (common == 0) {
            return part;
        }
        return (part == 0 ? above : below) / common;
    }

    public int laying(int notes, int place, int k) {
        if (!known(notes) || place < 0 || !within(k, MOST_THINGS)) {
            return NONE;
        }
        prepare();
        return search.squareOf(notes, place, k);
    }

    public int rows(int notes, int sort, int y, int n) {
        if (!known(notes) || !within(sort, now.land.sorts) || !within(y, now.land.rows)) {
            return NONE;
        }
        if (!within(n, MOST_THINGS + 1)) {
            return NONE;
        }
        prepare();
        search.tally(notes, sort, Grid.box(0, y, now.land.columns - 1, y));
        return search.tallied[n];
    }

    public int news(int notes, int note) {
        if (!known(notes) || !within(note, now.notes) || (notes >> note & 1) == 0) {
            return NONE;
        }
        return howMany(notes ^ 1 << note) > howMany(notes) ? 1 : 0;
    }

    public int quarrel(int one, int other) {
        if (!within(one, now.notes) || !within(other, now.notes) || one == other) {
            return NONE;
        }
        prepare();
        int first = 1 << one;
        int second = 1 << other;
        return search.any(first) && search.any(second) && !search.any(first | second) ? 1 : 0;
    }

    public int least(int notes) {
        if (!known(notes)) {
            return NONE;
        }
        countAllSets();
        return fits.fewestThatSayAsMuch(notes);
    }

    public int careless(int notes) {
        if (!known(notes)) {
            return NONE;
        }
        countAllSets();
        return fits.fewestToLeaveOut(notes);
    }

    public int trust(int notes) {
        if (!known(notes)) {
            return NONE;
        }
        countAllSets();
        return fits.fewestToDistrust(now, notes);
    }

    public int worst(int notes, int hill) {
        if (!known(notes) || !within(hill, now.land.hills)) {
            return NONE;
        }
        lookFrom(notes, 0);
        return climbs.greatest(hill);
    }

    public int next(int notes, int what) {
        if (!known(notes) || !within(what, 2)) {
            return NONE;
        }
        if (now.land.hills == 0) {
            return WITHOUT;
        }
        lookFrom(notes, 0);
        climbs.chooseView();
        return climbs.chosen(what);
    }

    public int then(int notes, int hill, int none, int what) {
        Land land = now.land;
        if (!known(notes) || !within(hill, land.hills) || !within(none, 1 << land.sorts) || !within(what, 2)) {
            return NONE;
        }
        lookFromTwo(notes);
        climbs.chooseSecond(hill, none);
        return climbs.chosen(what);
    }

    public int plan(int notes, int what) {
        if (!known(notes) || !within(what, 2)) {
            return NONE;
        }
        if (now.land.hills == 0) {
            return WITHOUT;
        }
        lookFromTwo(notes);
        climbs.chooseFirst();
        return climbs.chosen(what);
    }

    public int fresh(int notes, int far, int what) {
        if (!known(notes) || far < 1 || far > 9 || !within(what, 2)) {
            return NONE;
        }
        if (now.land.open() == 0) {
            return WITHOUT;
        }
        lookFrom(notes, far);
        climbs.chooseView();
        return climbs.chosen(what);
    }

    public int walk(int hill, int hills) {
        Land land = now.land;
        if (!within(hill, land.hills) || !within(hills, 1 << land.hills)) {
            return NONE;
        }
        return walks.fewestSteps(land, hill, hills);
    }

    public int seed(int x) {
        if (x < 0) {
            return NONE;
        }
        int was = now.x;
        now.x = x;
        return was;
    }

    public int drawn(int notes) {
        if (!known(notes)) {
            return NONE;
        }
        int many = howMany(notes);
        return many == 0 ? WITHOUT : now.draw() % many;
    }

    public int count(int what) {
        Land land = now.land;
        switch (what) {
            case 0:
                return land.columns;
            case 1:
                return land.rows;
            case 2:
                return land.hills;
            case 3:
                return land.roads;
            case 4:
                return land.sorts;
            case 5:
                return land.things;
            case 6:
                return now.notes;
            case 7:
                return lawsTold;
            case 8:
                return now.stands;
            case 9:
                return now.x;
            case 10:
                return tape.length;
            default:
                return NONE;
        }
    }

    public int image(int k) {
        if (!within(k, MOST_IMAGES)) {
            return NONE;
        }
        images[k].copy(now);
        made[k] = true;
        return now.notes;
    }

    public int back(int k) {
        if (!within(k, MOST_IMAGES) || !made[k]) {
            return NONE;
        }
        now.copy(images[k]);
        version++;
        return now.notes;
    }

    private static boolean within(int number, int bound) {
        return number >= 0 && number < bound;
    }

    /** Whether all bits of a set are notes there are, and there is a land. */
    private boolean known(int set) {
        return now.land.told() && within(set, 1 << now.notes);
    }

    private void prepare() {
        if (searchVersion != version) {
            search.prepare(now.stands < 0 ? null : laws[now.stands]);
            searchVersion = version;
        }
    }

    private int howMany(int set) {
        prepare();
        return search.total(set);
    }

    private void countAllSets() {
        prepare();
        fits.fill(search, now, version);
    }

    private void lookFrom(int set, int far) {
        prepare();
        climbs.look(search, now.land, set, far, version);
    }

    private void lookFromTwo(int set) {
        prepare();
        climbs.lookTwice(search, now.land, set, version);
    }

    private static int commonDivisor(int one, int other) {
        int a = one;
        int b = other;
        for (int i = 0; i < 64 && b != 0; i++) {
            int rest = a % b;
            a = b;
            b = rest;
        }
        return a;
    }

    /** Sets of squares as bits. */
    private static final class Grid {
        private static final long FIRST_COLUMN = 0x041041041L;
        private static final long LAST_COLUMN = FIRST_COLUMN << 5;

        static long bit(int x, int y) {
            return 1L << 6 * y + x;
        }

        static long box(int x, int y, int x2, int y2) {
            long squares = 0;
            for (int i = y; i <= y2; i++) {
                for (int j = x; j <= x2; j++) {
                    squares |= bit(j, i);
                }
            }
            return squares;
        }

        /** The squares and all that are beside one of them. */
        static long grow(long squares) {
            long wider = squares | (squares & ~LAST_COLUMN) << 1 | (squares & ~FIRST_COLUMN) >>> 1;
            return (wider | wider << 6 | wider >>> 6) & (1L << SQUARES) - 1;
        }

        static int lowest(long squares) {
            return Long.bitCount((squares & -squares) - 1);
        }
    }

    /** The bytes that were fed, and a reader of their words, numbers and signs. */
    private static final class Tape {
        static final int MOST = 400;
        static final int END = 0;
        static final int NUMBER = 1;
        static final int WORD = 2;
        static final int SIGN = 3;
        /** Added to the byte of < or > that = follows. */
        static final int OR_EQUAL = 256;
        private static final int MOST_DIGITS = 5;

        private final int[] bytes = new int[MOST];
        int length;
        private int at;
        /** The kind of what is read now, its first byte's place, and a number (NONE: too long) or a sign. */
        int kind;
        int place;
        int value;
        /** The number last taken. */
        int taken;
        int fault;

        void append(int number) {
            for (int shift = 24; shift >= 0 && length < MOST; shift -= 8) {
                bytes[length] = number >>> shift & 255;
                length++;
            }
        }

        void begin() {
            at = 0;
            fault = 0;
            scan();
        }

        /** Calls nothing: the readers above it go deep enough. */
        void scan() {
            while (at < length && bytes[at] == ' ') {
                at++;
            }
            place = at;
            value = 0;
            kind = END;
            while (at < length && bytes[at] >= '0' && bytes[at] <= '9') {
                kind = NUMBER;
                value = at - place < MOST_DIGITS ? value * 10 + bytes[at] - '0' : NONE;
                at++;
            }
            while (kind != NUMBER && at < length && bytes[at] >= 'a' && bytes[at] <= 'z') {
                kind = WORD;
                at++;
            }
            if (kind == END && at < length) {
                kind = SIGN;
                value = bytes[at];
                at++;
                if ((value == '<' || value == '>') && at < length && bytes[at] == '=') {
                    value += OR_EQUAL;
                    at++;
                }
            }
        }

        boolean isSign(int sign) {
            return kind == SIGN && value == sign;
        }

        /** Which of some words, told with a blank between, is read now; NONE if it is none of them. */
        int among(String words) {
            if (kind != WORD) {
                return NONE;
            }
            int which = 0;
            int match = place;
            for (int i = 0; i <= words.length(); i++) {
                if (i == words.length() || words.charAt(i) == ' ') {
                    if (match == at) {
                        return which;
                    }
                    which++;
                    match = place;
                } else if (match != NONE) {
                    match = match < at && bytes[match] == words.charAt(i) ? match + 1 : NONE;
                }
            }
            return NONE;
        }

        boolean takeNumber(int least, int most) {
            if (kind != NUMBER) {
                return failAt(place, 0);
            }
            if (value < least || value > most) {
                return failAt(place, 1);
            }
            taken = value;
            scan();
            return true;
        }

        boolean fail(int code) {
            return failAt(place, code);
        }

        /** Answers false, so that a reader can leave with it. */
        boolean failAt(int where, int code) {
            if (fault == 0) {
                fault = 1 + 8 * where + code;
            }
            return false;
        }
    }

    /** A land as it was told, and what its hills see. */
    private static final class Land {
        int columns;
        int rows;
        int hills;
        int roads;
        int sorts;
        int things;
        long inside;
        long wood;
        final int[] hillAt = new int[MOST_HILLS];
        final int[] far = new int[MOST_HILLS];
        final long[] sees = new long[MOST_HILLS];
        final long[] road = new long[MOST_ROADS];
        final int[] many = new int[MOST_SORTS];

        void clear() {
            columns = 0;
            rows = 0;
            hills = 0;
            roads = 0;
            sorts = 0;
            things = 0;
            inside = 0;
            wood = 0;
        }

        void copy(Land other) {
            columns = other.columns;
            rows = other.rows;
            hills = other.hills;
            roads = other.roads;
            sorts = other.sorts;
            things = other.things;
            inside = other.inside;
            wood = other.wood;
            System.arraycopy(other.hillAt, 0, hillAt, 0, MOST_HILLS);
            System.arraycopy(other.far, 0, far, 0, MOST_HILLS);
            System.arraycopy(other.sees, 0, sees, 0, MOST_HILLS);
            System.arraycopy(other.road, 0, road, 0, MOST_ROADS);
            System.arraycopy(other.many, 0, many, 0, MOST_SORTS);
        }

        boolean told() {
            return columns > 0;
        }

        boolean holds(int x, int y) {
            return within(x, columns) && within(y, rows);
        }

        long open() {
            return inside & ~wood;
        }

        /** Once all clauses are read: a hill may be told behind the wood it stands in. */
        void settle() {
            inside = Grid.box(0, 0, columns - 1, rows - 1);
            for (int i = 0; i < hills; i++) {
                wood &= ~(1L << hillAt[i]);
            }
            for (int i = 0; i < hills; i++) {
                sees[i] = view(hillAt[i], far[i]);
            }
        }

        long view(int from, int reach) {
            long squares = 0;
            for (int to = 0; to < SQUARES; to++) {
                if ((inside >>> to & 1) != 0 && isClear(from, to, reach)) {
                    squares |= 1L << to;
                }
            }
            return squares;
        }

        private boolean isClear(int from, int to, int reach) {
            int dx = to % 6 - from % 6;
            int dy = to / 6 - from / 6;
            int n = Math.max(Math.abs(dx), Math.abs(dy));
            if (n > reach) {
                return false;
            }
            for (int k = 1; k < n; k++) {
                int x = from % 6 + Math.floorDiv(2 * k * dx + n, 2 * n);
                int y = from / 6 + Math.floorDiv(2 * k * dy + n, 2 * n);
                if ((wood & Grid.bit(x, y)) != 0) {
                    return false;
                }
            }
            return true;
        }

        int hillOn(int square) {
            for (int i = 0; i < hills; i++) {
                if (hillAt[i] == square) {
                    return i;
                }
            }
            return NONE;
        }

        int hillsThatSee(int square) {
            int many = 0;
            for (int i = 0; i < hills; i++) {
                many += (int) (sees[i] >>> square & 1);
            }
            return many;
        }

        int roadsOf(int square) {
            int many = 0;
            for (int i = 0; i < roads; i++) {
                many += (int) (road[i] >>> square & 1);
            }
            return many;
        }

        int woodsBeside(int square) {
            long own = 1L << square;
            return Long.bitCount(Grid.grow(own) & ~own & wood);
        }

        int toEdge(int square) {
            int x = square % 6;
            int y = square / 6;
            return Math.min(Math.min(x, columns - 1 - x), Math.min(y, rows - 1 - y));
        }
    }

    /** Reads a land from the tape. */
    private static final class LandReader {
        private static final int MOST_CLAUSES = 24;
        private static final String CLAUSES = "wide wood hill road sort";
        private static final int WIDE = 0;
        private static final int WOOD = 1;
        private static final int HILL = 2;
        private static final int ROAD = 3;

        private final Tape tape;
        private final Land land;
        private int x;
        private int y;
        private int x2;
        private int y2;

        LandReader(Tape source, Land draft) {
            tape = source;
            land = draft;
        }

        /** Answers a FAULT, or 0. */
        int read() {
            land.clear();
            tape.begin();
            for (int i = 0; i <= MOST_CLAUSES; i++) {
                if (!readClause(i)) {
                    return tape.fault;
                }
                if (tape.kind == Tape.END) {
                    land.settle();
                    return 0;
                }
                if (!tape.isSign(';')) {
                    tape.fail(0);
                    return tape.fault;
                }
                tape.scan();
            }
            return tape.fault;
        }

        private boolean readClause(int before) {
            int word = tape.among(CLAUSES);
            if (word == NONE) {
                return tape.fail(0);
            }
            boolean isMisplaced = before == 0 ? word != WIDE : word == WIDE;
            if (before >= MOST_CLAUSES || isMisplaced || isFull(word)) {
                return tape.fail(4);
            }
            tape.scan();
            switch (word) {
                case WIDE:
                    return readWide();
                case WOOD:
                    return readWood();
                case HILL:
                    return readHill();
                case ROAD:
                    return readRoad();
                default:
                    return readSort();
            }
        }

        private boolean isFull(int word) {
            if (word == HILL) {
                return land.hills >= MOST_HILLS;
            }
            if (word == ROAD) {
                return land.roads >= MOST_ROADS;
            }
            return word > ROAD && land.sorts >= MOST_SORTS;
        }

        private boolean readWide() {
            if (!tape.takeNumber(2, 6)) {
                return false;
            }
            land.columns = tape.taken;
            if (!tape.takeNumber(2, 6)) {
                return false;
            }
            land.rows = tape.taken;
            return true;
        }

        private boolean readSquare() {
            if (!tape.takeNumber(0, land.columns - 1)) {
                return false;
            }
            x = tape.taken;
            if (!tape.takeNumber(0, land.rows - 1)) {
                return false;
            }
            y = tape.taken;
            return true;
        }

        private boolean readBox() {
            if (!readSquare() || !tape.takeNumber(x, land.columns - 1)) {
                return false;
            }
            x2 = tape.taken;
            if (!tape.takeNumber(y, land.rows - 1)) {
                return false;
            }
            y2 = tape.taken;
            return true;
        }

        private boolean readWood() {
            if (!readBox()) {
                return false;
            }
            land.wood |= Grid.box(x, y, x2, y2);
            return true;
        }

        private boolean readHill() {
            int first = tape.place;
            if (!readSquare()) {
                return false;
            }
            // Ahead of the far: this fault lies before whatever is wrong with that.
            if (land.hillOn(6 * y + x) != NONE) {
                return tape.failAt(first, 5);
            }
            if (!tape.takeNumber(1, 9)) {
                return false;
            }
            land.hillAt[land.hills] = 6 * y + x;
            land.far[land.hills] = tape.taken;
            land.hills++;
            return true;
        }

        private boolean readRoad() {
            int first = tape.place;
            if (!readBox()) {
                return false;
            }
            if (x != x2 && y != y2) {
                return tape.failAt(first, 5);
            }
            land.road[land.roads] = Grid.box(x, y, x2, y2);
            land.roads++;
            return true;
        }

        private boolean readSort() {
            int first = tape.place;
            if (!tape.takeNumber(0, MOST_THINGS)) {
                return false;
            }
            if (land.things + tape.taken > MOST_THINGS) {
                return tape.failAt(first, 5);
            }
            land.many[land.sorts] = tape.taken;
            land.sorts++;
            land.things += tape.taken;
            return true;
        }
    }

    /** A law: distances of sorts, and tests of squares as a code that works on a stack. */
    private static final class Law {
        static final int MOST_CLAUSES = 12;
        static final int MOST_PARTS = 60;
        /** The words of a square, each the code -1 - its place here; numbers are their own code. */
        static final String WORDS = "x y woods seen hill road edge";
        static final int LAST_WORD = -7;
        static final int ADD = -11;
        static final int TAKE = -12;
        static final int TIMES = -13;
        static final int BY = -14;
        static final int LESS = -15;
        static final int LESS_OR_EQUAL = -16;
        static final int EQUAL = -17;
        static final int MORE_OR_EQUAL = -18;
        static final int MORE = -19;
        static final int AND = -20;
        static final int OR = -21;
        static final int NOT = -22;

        int aparts;
        final int[] one = new int[MOST_CLAUSES];
        final int[] other = new int[MOST_CLAUSES];
        final int[] distance = new int[MOST_CLAUSES];
        int bars;
        final int[] barred = new int[MOST_CLAUSES];
        final int[] from = new int[MOST_CLAUSES + 1];
        final int[] code = new int[Tape.MOST];
        int codes;
        private final long[] stack = new long[MOST_PARTS + 1];
        private final int[] facts = new int[7];

        void clear() {
            aparts = 0;
            bars = 0;
            codes = 0;
        }

        void emit(int c) {
            if (codes < code.length) {
                code[codes] = c;
                codes++;
            }
        }

        void addApart(int a, int b, int d) {
            if (aparts < MOST_CLAUSES) {
                one[aparts] = a;
                other[aparts] = b;
                distance[aparts] = d;
                aparts++;
            }
        }

        void beginBar(int sort) {
            if (bars < MOST_CLAUSES) {
                barred[bars] = sort;
                from[bars] = codes;
                bars++;
            }
        }

        /** For each sort the squares it may not stand on, in a row of four. */
        void barSquares(Land land, long[] squares) {
            from[bars] = codes;
            for (int square = 0; square < SQUARES; square++) {
                if ((land.inside >>> square & 1) != 0) {
                    learn(land, square);
                    for (int i = 0; i < bars; i++) {
                        if (isTrue(from[i], from[i + 1])) {
                            squares[barred[i]] |= 1L << square;
                        }
                    }
                }
            }
        }

        private void learn(Land land, int square) {
            facts[0] = square % 6;
            facts[1] = square / 6;
            facts[2] = land.woodsBeside(square);
            facts[3] = land.hillsThatSee(square);
            facts[4] = land.hillOn(square) == NONE ? 0 : 1;
            facts[5] = land.roadsOf(square);
            facts[6] = land.toEdge(square);
        }

        private boolean isTrue(int start, int stop) {
            int top = 0;
            for (int i = start; i < stop; i++) {
                int c = code[i];
                if (c >= LAST_WORD) {
                    if (top < stack.length) {
                        stack[top] = c >= 0 ? c : facts[-1 - c];
                        top++;
                    }
                } else if (c == NOT) {
                    if (top > 0) {
                        stack[top - 1] = 1 - stack[top - 1];
                    }
                } else if (top > 1) {
                    top--;
                    stack[top - 1] = join(c, stack[top - 1], stack[top]);
                }
            }
            return top > 0 && stack[0] != 0;
        }

        private static long join(int c, long a, long b) {
            switch (c) {
                case ADD:
                    return a + b;
                case TAKE:
                    return a - b;
                case TIMES:
                    return a * b;
                case BY:
                    return b == 0 ? 0 : a / b;
                case AND:
                    return a & b;
                case OR:
                    return a | b;
                default:
                    return compare(c, a, b) ? 1 : 0;
            }
        }

        private static boolean compare(int c, long a, long b) {
            switch (c) {
                case LESS:
                    return a < b;
                case LESS_OR_EQUAL:
                    return a <= b;
                case EQUAL:
                    return a == b;
                case MORE_OR_EQUAL:
                    return a >= b;
                default:
                    return a > b;
            }
        }
    }

    /** Reads a law from the tape. */
    private static final class LawReader {
        private static final int MOST_DEPTH = 10;

        private final Tape tape;
        private Law law;
        private int parts;
        private int comparison;

        LawReader(Tape source) {
            tape = source;
        }

        /** Answers a FAULT, or 0. */
        int read(Law into) {
            law = into;
            law.clear();
            parts = 0;
            tape.begin();
            for (int i = 0; i <= Law.MOST_CLAUSES; i++) {
                int word = tape.among("apart bar");
                if (word == NONE) {
                    tape.fail(0);
                    return tape.fault;
                }
                if (i >= Law.MOST_CLAUSES) {
                    tape.fail(4);
                    return tape.fault;
                }
                tape.scan();
                if (!(word == 0 ? readApart() : readBarred() && readTest(0))) {
                    return tape.fault;
                }
                if (tape.kind == Tape.END) {
                    return 0;
                }
                if (!tape.isSign(';')) {
                    tape.fail(0);
                    return tape.fault;
                }
                tape.scan();
            }
            return tape.fault;
        }

        private boolean readApart() {
            if (!tape.takeNumber(0, MOST_SORTS - 1)) {
                return false;
            }
            int a = tape.taken;
            if (!tape.takeNumber(0, MOST_SORTS - 1)) {
                return false;
            }
            int b = tape.taken;
            if (!tape.takeNumber(1, 5)) {
                return false;
            }
            law.addApart(a, b, tape.taken);
            return true;
        }

        private boolean readBarred() {
            if (!tape.takeNumber(0, MOST_SORTS - 1)) {
                return false;
            }
            law.beginBar(tape.taken);
            return true;
        }

        /** Facts joined by and, which binds closer, and by or. */
        private boolean readTest(int depth) {
            boolean orWaits = false;
            if (!readFact(depth)) {
                return false;
            }
            for (int i = 0; i < Tape.MOST; i++) {
                int word = tape.among("and or");
                if (word == NONE) {
                    break;
                }
                if (word == 1 && orWaits) {
                    law.emit(Law.OR);
                }
                orWaits = orWaits || word == 1;
                tape.scan();
                if (!readFact(depth)) {
                    return false;
                }
                if (word == 0) {
                    law.emit(Law.AND);
                }
            }
            if (orWaits) {
                law.emit(Law.OR);
            }
            return true;
        }

        private boolean readFact(int depth) {
            boolean isNot = tape.among("not") == 0;
            if (!isNot && !tape.isSign('[')) {
                return readSum() && readComparison() && readSum() && endComparison();
            }
            if (depth >= MOST_DEPTH) {
                return tape.fail(2);
            }
            tape.scan();
            if (isNot) {
                if (!readFact(depth + 1)) {
                    return false;
                }
                law.emit(Law.NOT);
                return true;
            }
            if (!readTest(depth + 1)) {
                return false;
            }
            if (!tape.isSign(']')) {
                return tape.fail(0);
            }
            tape.scan();
            return true;
        }

        private boolean readComparison() {
            int code = signCode();
            if (code > Law.LESS || code < Law.MORE) {
                return tape.fail(0);
            }
            if (!isRoomForPart()) {
                return false;
            }
            comparison = code;
            tape.scan();
            return true;
        }

        private boolean endComparison() {
            law.emit(comparison);
            return true;
        }

        private boolean readSum() {
            // A + or - is put into the code when the TERM behind it is whole.
            int waits = 0;
            if (!readValue()) {
                return false;
            }
            for (int i = 0; i < Tape.MOST; i++) {
                int code = signCode();
                if (code > Law.ADD || code < Law.BY) {
                    break;
                }
                boolean isTerm = code >= Law.TAKE;
                if (isTerm && waits != 0) {
                    law.emit(waits);
                }
                tape.scan();
                if (!readValue()) {
                    return false;
                }
                if (isTerm) {
                    waits = code;
                } else {
                    law.emit(code);
                }
            }
            if (waits != 0) {
                law.emit(waits);
            }
            return true;
        }

        private boolean readValue() {
            int word = tape.among(Law.WORDS);
            if (tape.kind != Tape.NUMBER && word == NONE) {
                return tape.fail(0);
            }
            if (word == NONE && tape.value < 0) {
                return tape.fail(1);
            }
            if (!isRoomForPart()) {
                return false;
            }
            law.emit(word == NONE ? tape.value : -1 - word);
            tape.scan();
            return true;
        }

        private boolean isRoomForPart() {
            if (parts >= Law.MOST_PARTS) {
                return tape.failAt(tape.place, 3);
            }
            parts++;
            return true;
        }

        private int signCode() {
            if (tape.kind != Tape.SIGN) {
                return 0;
            }
            switch (tape.value) {
                case '+':
                    return Law.ADD;
                case '-':
                    return Law.TAKE;
                case '*':
                    return Law.TIMES;
                case '/':
                    return Law.BY;
                case '<':
                    return Law.LESS;
                case '<' + Tape.OR_EQUAL:
                    return Law.LESS_OR_EQUAL;
                case '=':
                    return Law.EQUAL;
                case '>' + Tape.OR_EQUAL:
                    return Law.MORE_OR_EQUAL;
                case '>':
                    return Law.MORE;
                default:
                    return 0;
            }
        }
    }

    /** What an image keeps: the land, its notes, which law stands, and x. */
    private static final class State {
        static final int FACTS = 5;

        final Land land = new Land();
        int notes;
        private final int[] facts = new int[MOST_NOTES * FACTS];
        int stands = NONE;
        int x;

        void copy(State other) {
            land.copy(other.land);
            notes = other.notes;
            System.arraycopy(other.facts, 0, facts, 0, facts.length);
            stands = other.stands;
            x = other.x;
        }

        void write(int surveyor, int kind, int which, int sort, int sure) {
            int at = notes * FACTS;
            facts[at] = surveyor;
            facts[at + 1] = kind;
            facts[at + 2] = which;
            facts[at + 3] = sort;
            facts[at + 4] = sure;
            notes++;
        }

        int fact(int note, int what) {
            return facts[note * FACTS + what];
        }

        int surveyor(int note) {
            return fact(note, 0);
        }

        int sort(int note) {
            return fact(note, 3);
        }

        int sure(int note) {
            return fact(note, 4);
        }

        /** The squares that a note speaks of. */
        long region(int note) {
            int which = fact(note, 2);
            return fact(note, 1) == 0 ? land.sees[which] : land.road[which];
        }

        int draw() {
            x = (int) ((x * 1103515245L + 12345L) % 2147483648L);
            return x / 65536;
        }
    }

    /**
     * Goes through the layings that fit a set of notes, in their order: all things but the last stand
     * on squares, and the last one's squares are told together, as bits.
     */
    private static final class Search {
        /** No square: where the last thing stands in a land without things, so that one laying is counted. */
        private static final long NOWHERE = 1L << 62;

        /** By distance and square, the squares nearer than that. */
        private final long[] near = new long[6 * SQUARES];
        private final State state;
        private final long[] barred = new long[MOST_SORTS];
        private final int[] apart = new int[MOST_SORTS * MOST_SORTS];
        private int things;
        private final int[] sort = new int[MOST_THINGS];
        private final long[] allowed = new long[MOST_SORTS];
        private boolean hopeless;
        /** The notes of the set that are more than squares where nothing of a sort is. */
        private int counted;
        private final long[] region = new long[MOST_NOTES];
        private final int[] regionSort = new int[MOST_NOTES];
        private final int[] sure = new int[MOST_NOTES];
        private int level;
        private final int[] at = new int[MOST_THINGS];
        private final long[] left = new long[MOST_THINGS];
        /** The squares of the last thing. */
        long last;
        final int[] tallied = new int[MOST_THINGS + 1];

        Search(State told) {
            state = told;
            for (int square = 0; square < SQUARES; square++) {
                long squares = 1L << square;
                for (int d = 1; d < 6; d++) {
                    near[d * SQUARES + square] = squares;
                    squares = Grid.grow(squares);
                }
            }
        }

        void prepare(Law law) {
            Land land = state.land;
            things = 0;
            for (int i = 0; i < land.sorts; i++) {
                for (int j = 0; j < land.many[i] && things < MOST_THINGS; j++) {
                    sort[things] = i;
                    things++;
                }
            }
            Arrays.fill(barred, 0L);
            Arrays.fill(apart, 1);
            if (law != null) {
                law.barSquares(land, barred);
                for (int i = 0; i < law.aparts; i++) {
                    keepApart(law.one[i], law.other[i], law.distance[i]);
                    keepApart(law.other[i], law.one[i], law.distance[i]);
                }
            }
        }

        private void keepApart(int a, int b, int d) {
            int pair = a * MOST_SORTS + b;
            apart[pair] = Math.max(apart[pair], d);
        }

        int barredAt(int square) {
            int sorts = 0;
            for (int i = 0; i < state.land.sorts; i++) {
                sorts |= (int) (barred[i] >>> square & 1) << i;
            }
            return sorts;
        }

        void start(int set) {
            Land land = state.land;
            hopeless = false;
            counted = 0;
            level = 0;
            for (int i = 0; i < MOST_SORTS; i++) {
                allowed[i] = land.open() & ~barred[i];
            }
            for (int i = 0; i < state.notes; i++) {
                if ((set >> i & 1) != 0) {
                    heed(state.sort(i), state.sure(i), state.region(i));
                }
            }
            if (hopeless) {
                left[0] = 0;
            } else {
                left[0] = things == 0 ? NOWHERE : room(0);
            }
        }

        private void heed(int of, int told, long squares) {
            int many = state.land.many[of];
            if (told == 0) {
                allowed[of] &= ~squares;
            } else if (told < 0 && many == 0) {
                hopeless = true;
            } else if (told < many && counted < MOST_NOTES) {
                region[counted] = squares;
                regionSort[counted] = of;
                sure[counted] = told;
                counted++;
            }
        }

        /** Goes to the next squares of all things but the last; false if there are none. */
        boolean step() {
            if (things < 2) {
                last = left[0];
                left[0] = 0;
                return last != 0;
            }
            for (int i = 0; i < MOST_STEPS && level >= 0; i++) {
                long squares = left[level];
                if (squares == 0) {
                    level--;
                    continue;
                }
                at[level] = Grid.lowest(squares);
                left[level] = squares & squares - 1;
                long rest = room(level + 1);
                if (rest == 0) {
                    continue;
                }
                if (level + 2 == things) {
                    last = rest;
                    return true;
                }
                level++;
                left[level] = rest;
            }
            return false;
        }

        /** Where a thing can stand, by those ahead of it. */
        private long room(int thing) {
            int own = sort[thing];
            long squares = allowed[own];
            long alike = 0;
            for (int i = 0; i < thing; i++) {
                squares &= ~near[apart[sort[i] * MOST_SORTS + own] * SQUARES + at[i]];
                if (sort[i] == own) {
                    alike |= 1L << at[i];
                }
            }
            if (alike != 0) {
                // Things of a sort are alike: each stands behind the one ahead of it.
                squares &= -2L << at[thing - 1];
            }
            return counted == 0 || squares == 0 ? squares : roomByNotes(squares, thing, alike);
        }

        private long roomByNotes(long squares, int thing, long alike) {
            int own = sort[thing];
            boolean isLastOfSort = thing + 1 == things || sort[thing + 1] != own;
            long rest = squares;
            for (int i = 0; i < counted; i++) {
                if (regionSort[i] == own) {
                    int there = Long.bitCount(region[i] & alike);
                    if (sure[i] > 0) {
                        rest &= there >= sure[i] ? ~region[i] : -1L;
                    } else if (isLastOfSort && there == 0) {
                        rest &= region[i];
                    }
                }
            }
            return rest;
        }

        /** Things that stand on squares of their own: all but the last. */
        int placed() {
            return things - 1;
        }

        int placedSort(int thing) {
            return sort[thing];
        }

        int placedAt(int thing) {
            return at[thing];
        }

        int lastSort() {
            return things == 0 ? 0 : sort[things - 1];
        }

        int total(int set) {
            int many = 0;
            start(set);
            for (int i = 0; i < MOST_STEPS && step(); i++) {
                many += Long.bitCount(last);
            }
            return many;
        }

        boolean any(int set) {
            start(set);
            return step();
        }

        /** In how many layings none, one, .. of a sort stand on some squares. */
        void tally(int set, int of, long squares) {
            Arrays.fill(tallied, 0);
            start(set);
            for (int i = 0; i < MOST_STEPS && step(); i++) {
                int there = 0;
                for (int j = 0; j < things - 1; j++) {
                    if (sort[j] == of && (squares >>> at[j] & 1) != 0) {
                        there++;
                    }
                }
                int more = lastSort() == of ? Long.bitCount(last & squares) : 0;
                tallied[there] += Long.bitCount(last) - more;
                tallied[there + 1] += more;
            }
        }

        int squareOf(int set, int place, int thing) {
            if (thing >= things) {
                return WITHOUT;
            }
            int before = place;
            start(set);
            for (int i = 0; i < MOST_STEPS && step(); i++) {
                int many = Long.bitCount(last);
                if (before < many) {
                    return thing < things - 1 ? at[thing] : nth(last, before);
                }
                before -= many;
            }
            return WITHOUT;
        }

        private static int nth(long squares, int n) {
            long rest = squares;
            for (int i = 0; i < n; i++) {
                rest &= rest - 1;
            }
            return Grid.lowest(rest);
        }

        /** Sorts of which a thing, the last one left aside, stands on some squares, as bits. */
        int sortsOn(long squares) {
            int sorts = 0;
            for (int i = 0; i < things - 1; i++) {
                sorts |= (int) (squares >>> at[i] & 1) << sort[i];
            }
            return sorts;
        }
    }

    /** How many layings fit each set of notes, and which sets are the least for something. */
    private static final class Fits {
        private static final int SETS = 1 << MOST_NOTES;
        private static final int SURVEYORS = 6;

        private int version;
        private final int[] many = new int[SETS];
        /** By sort and square, the notes of that sort that speak of it. */
        private final int[] spoken = new int[MOST_SORTS * SQUARES];
        /** By how sure: none, 1, 2, 3 at most, and at least one: the notes that are so. */
        private final int[] bySure = new int[5];
        /** The last thing's squares together of which the same notes speak. */
        private int groups;
        private final long[] group = new long[SQUARES + 1];
        private final int[] groupNotes = new int[SQUARES + 1];

        void fill(Search search, State state, int stateVersion) {
            if (version == stateVersion) {
                return;
            }
            version = stateVersion;
            sortNotes(state);
            Arrays.fill(many, 0);
            search.start(0);
            groupSquares(search.lastSort());
            for (int i = 0; i < MOST_STEPS && search.step(); i++) {
                countLayings(search);
            }
            addSupersets();
        }

        private void sortNotes(State state) {
            Arrays.fill(bySure, 0);
            Arrays.fill(spoken, 0);
            for (int i = 0; i < state.notes; i++) {
                int sure = state.sure(i);
                bySure[sure < 0 ? 4 : sure] |= 1 << i;
                long region = state.region(i);
                for (int square = 0; square < SQUARES; square++) {
                    spoken[state.sort(i) * SQUARES + square] |= (int) (region >>> square & 1) << i;
                }
            }
        }

        /** Group 0 are those of which no note speaks, and what is no square. */
        private void groupSquares(int sort) {
            groups = 1;
            group[0] = -1L;
            groupNotes[0] = 0;
            for (int square = 0; square < SQUARES; square++) {
                int notes = spoken[sort * SQUARES + square];
                int g = 0;
                while (g < groups && groupNotes[g] != notes) {
                    g++;
                }
                if (g == groups) {
                    groupNotes[g] = notes;
                    group[g] = 0;
                    groups++;
                }
                if (g > 0) {
                    group[g] |= 1L << square;
                    group[0] &= ~(1L << square);
                }
            }
        }

        /** Counts, for each note as a bit, whether one, two, three, four things stand where it speaks of. */
        private void countLayings(Search search) {
            int one = 0;
            int two = 0;
            int three = 0;
            for (int i = 0; i < search.placed(); i++) {
                int notes = spoken[search.placedSort(i) * SQUARES + search.placedAt(i)];
                three |= two & notes;
                two |= one & notes;
                one |= notes;
            }
            int without = fitting(one, two, three, 0);
            int with = fitting(-1, one, two, three);
            for (int i = 0; i < groups; i++) {
                int layings = Long.bitCount(search.last & group[i]);
                many[without & ~groupNotes[i] | with & groupNotes[i]] += layings;
            }
        }

        private int fitting(int one, int two, int three, int four) {
            return bySure[4] & one | bySure[0] & ~one | bySure[1] & ~two | bySure[2] & ~three | bySure[3] & ~four;
        }

        /** A laying that fits a set fits each part of it. */
        private void addSupersets() {
            for (int i = 0; i < MOST_NOTES; i++) {
                for (int set = 0; set < SETS; set++) {
                    if ((set >> i & 1) == 0) {
                        many[set] += many[set | 1 << i];
                    }
                }
            }
        }

        int fewestThatSayAsMuch(int notes) {
            int best = notes;
            for (int set = 0; set < notes; set++) {
                if ((set & ~notes) == 0 && many[set] == many[notes] && isFewer(set, best)) {
                    best = set;
                }
            }
            return best;
        }

        int fewestToLeaveOut(int notes) {
            int best = WITHOUT;
            for (int set = 0; set <= notes; set++) {
                if ((set & ~notes) == 0 && many[notes ^ set] > 0 && isFewer(set, best)) {
                    best = set;
                }
            }
            return best;
        }

        int fewestToDistrust(State state, int notes) {
            int best = WITHOUT;
            for (int set = 0; set < 1 << SURVEYORS; set++) {
                if (many[without(state, notes, set)] > 0 && isFewer(set, best)) {
                    best = set;
                }
            }
            return best;
        }

        private static int without(State state, int notes, int surveyors) {
            int rest = notes;
            for (int i = 0; i < state.notes; i++) {
                if ((surveyors >> state.surveyor(i) & 1) != 0) {
                    rest &= ~(1 << i);
                }
            }
            return rest;
        }

        /** Sets are looked at from the least on, so that the first of several stays. */
        private static boolean isFewer(int set, int best) {
            return best < 0 || Integer.bitCount(set) < Integer.bitCount(best);
        }
    }

    /** What climbing tells: by which sorts one sees none of, how many layings there are. */
    private static final class Climbs {
        private static final int TOLD = 1 << MOST_SORTS;
        private static final int PAIRS = MOST_HILLS * (MOST_HILLS + 1) / 2;

        private int views;
        private final long[] view = new long[SQUARES];
        private final int[] name = new int[SQUARES];
        private final int[] many = new int[SQUARES * TOLD];
        private int version;
        private int set;
        private int far;

        private int hills;
        /** By two hills, in either order, and what each told: the longest row, so only made once it is asked for. */
        private int[] both = new int[0];
        private final int[] none = new int[MOST_HILLS];
        private final int[] noneWithLast = new int[MOST_HILLS];
        private final int[] lastSeen = new int[MOST_HILLS];
        private int bothVersion;
        private int bothSet;

        private int best;
        private int bestWorst;

        int chosen(int what) {
            return what == 0 ? best : bestWorst;
        }

        /** Looks from all hills, or, with a far, from all squares that are no wood. */
        void look(Search search, Land land, int notes, int reach, int stateVersion) {
            if (version == stateVersion && set == notes && far == reach) {
                return;
            }
            version = stateVersion;
            set = notes;
            far = reach;
            if (reach == 0) {
                viewFromHills(land);
            } else {
                viewFromSquares(land, reach);
            }
            Arrays.fill(many, 0);
            search.start(notes);
            int all = (1 << land.sorts) - 1;
            for (int i = 0; i < MOST_STEPS && search.step(); i++) {
                countViews(search, all);
            }
        }

        private void viewFromHills(Land land) {
            views = land.hills;
            for (int i = 0; i < views; i++) {
                view[i] = land.sees[i];
                name[i] = i;
            }
        }

        private void viewFromSquares(Land land, int reach) {
            views = 0;
            for (int square = 0; square < SQUARES; square++) {
                if ((land.open() >>> square & 1) != 0) {
                    view[views] = land.view(square, reach);
                    name[views] = square;
                    views++;
                }
            }
        }

        private void countViews(Search search, int all) {
            int layings = Long.bitCount(search.last);
            int lastBit = 1 << search.lastSort();
            for (int i = 0; i < views; i++) {
                int seen = Long.bitCount(search.last & view[i]);
                int told = all & ~search.sortsOn(view[i]);
                many[i * TOLD + told] += layings - seen;
                many[i * TOLD + (told & ~lastBit)] += seen;
            }
        }

        /** WORST of a view. */
        int greatest(int which) {
            int most = 0;
            for (int i = 0; i < TOLD; i++) {
                most = Math.max(most, many[which * TOLD + i]);
            }
            return most;
        }

        void chooseView() {
            forget();
            for (int i = 0; i < views; i++) {
                choose(name[i], greatest(i));
            }
        }

        private void forget() {
            best = NONE;
            bestWorst = 0;
        }

        private void choose(int which, int worst) {
            if (best == NONE || worst < bestWorst) {
                best = which;
                bestWorst = worst;
            }
        }

        void lookTwice(Search search, Land land, int notes, int stateVersion) {
            if (bothVersion == stateVersion && bothSet == notes) {
                return;
            }
            bothVersion = stateVersion;
            bothSet = notes;
            hills = land.hills;
            if (both.length == 0) {
                both = new int[PAIRS * TOLD * TOLD];
            }
            Arrays.fill(both, 0);
            int all = (1 << land.sorts) - 1;
            search.start(notes);
            for (int i = 0; i < MOST_STEPS && search.step(); i++) {
                countPairs(search, land, all);
            }
        }

        private void countPairs(Search search, Land land, int all) {
            int layings = Long.bitCount(search.last);
            int lastBit = 1 << search.lastSort();
            for (int i = 0; i < hills; i++) {
                none[i] = all & ~search.sortsOn(land.sees[i]);
                noneWithLast[i] = none[i] & ~lastBit;
                lastSeen[i] = Long.bitCount(search.last & land.sees[i]);
            }
            for (int i = 0; i < hills; i++) {
                for (int j = i; j < hills; j++) {
                    int seen = Long.bitCount(search.last & land.sees[i] & land.sees[j]);
                    both[spot(i, j, noneWithLast[i], noneWithLast[j])] += seen;
                    both[spot(i, j, noneWithLast[i], none[j])] += lastSeen[i] - seen;
                    both[spot(i, j, none[i], noneWithLast[j])] += lastSeen[j] - seen;
                    both[spot(i, j, none[i], none[j])] += layings - lastSeen[i] - lastSeen[j] + seen;
                }
            }
        }

        private static int spot(int hill, int other, int told, int otherTold) {
            if (hill > other) {
                return ((hill * (hill + 1) / 2 + other) * TOLD + otherTold) * TOLD + told;
            }
            return ((other * (other + 1) / 2 + hill) * TOLD + told) * TOLD + otherTold;
        }

        /** THEN, when a hill told some bits. */
        void chooseSecond(int hill, int told) {
            forget();
            for (int i = 0; i < hills; i++) {
                if (i != hill || hills == 1) {
                    choose(i, greatestAfter(hill, told, i));
                }
            }
        }

        private int greatestAfter(int hill, int told, int second) {
            int most = 0;
            for (int i = 0; i < TOLD; i++) {
                most = Math.max(most, both[spot(hill, second, told, i)]);
            }
            return most;
        }

        /** PLAN of two. */
        void chooseFirst() {
            int first = NONE;
            int least = 0;
            for (int i = 0; i < hills; i++) {
                int most = 0;
                for (int told = 0; told < TOLD; told++) {
                    chooseSecond(i, told);
                    most = Math.max(most, bestWorst);
                }
                if (first == NONE || most < least) {
                    first = i;
                    least = most;
                }
            }
            best = first;
            bestWorst = least;
        }
    }

    /** Ways over the hills. */
    private static final class Walks {
        private static final int NEVER = 1000000;

        private final int[] steps = new int[MOST_HILLS * MOST_HILLS];
        /** By the hills that one has been on, and the last of them. */
        private final int[] fewest = new int[(1 << MOST_HILLS) * MOST_HILLS];

        int fewestSteps(Land land, int hill, int hills) {
            int all = hills | 1 << hill;
            for (int i = 0; i < land.hills; i++) {
                spread(land, i);
            }
            Arrays.fill(fewest, NEVER);
            fewest[(1 << hill) * MOST_HILLS + hill] = 0;
            for (int been = 0; been <= all; been++) {
                for (int i = 0; i < land.hills; i++) {
                    goOn(land, all, been, i);
                }
            }
            int least = NEVER;
            for (int i = 0; i < land.hills; i++) {
                least = Math.min(least, fewest[all * MOST_HILLS + i]);
            }
            return least >= NEVER ? WITHOUT : least;
        }

        private void goOn(Land land, int all, int been, int from) {
            int sofar = fewest[been * MOST_HILLS + from];
            for (int i = 0; i < land.hills && sofar < NEVER; i++) {
                if (((all & ~been) >> i & 1) != 0) {
                    int spot = (been | 1 << i) * MOST_HILLS + i;
                    fewest[spot] = Math.min(fewest[spot], sofar + steps[from * MOST_HILLS + i]);
                }
            }
        }

        /** Steps from a hill to each other one. */
        private void spread(Land land, int hill) {
            long reached = 1L << land.hillAt[hill];
            for (int i = 0; i < land.hills; i++) {
                steps[hill * MOST_HILLS + i] = NEVER;
            }
            for (int n = 0; n < SQUARES; n++) {
                for (int i = 0; i < land.hills; i++) {
                    int spot = hill * MOST_HILLS + i;
                    if ((reached >>> land.hillAt[i] & 1) != 0 && steps[spot] == NEVER) {
                        steps[spot] = n;
                    }
                }
                reached |= Grid.grow(reached) & land.open();
            }
        }
    }
}
