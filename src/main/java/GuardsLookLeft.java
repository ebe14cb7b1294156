import java.util.Arrays;

/**
 * A palace of 36 cells and its guards, who see to the left alone; what each promise asks stands in DOC.md.
 * All rows are made by the constructors and used again: no call makes an object.
 */
public final class GuardsLookLeft {
    public static final int NONE = -1, BAD = -2, STATE = -3, FULL = -4;
    public static final long NO = -4611686018427387904L;

    private static final int NO_SUCH = -5, WRONG = -7, NOTHING = -11, OUTSIDE = -12, UNLIKE = -13, BELOW = -14;
    private static final int FAULTY = -100;

    private static final int SIDE = 6, CELLS = 36, SECONDS = 24, MOST_GUARDS = 5;
    private static final long ALL_CELLS = (1L << CELLS) - 1;
    private static final int WALLS = 0, LAMPS = 1, MIRRORS = 2, LAYERS = 3;
    private static final int GUARD = 0, FIXED = 1, LAME = 2, TURNING = 3, ASLEEP = 4, PACING = 5;
    private static final int MOST_AHEAD = 23, MOST_LONG = 5, MOST_MORE = 9;

    private static final int TAPE_SIZE = 160, MOST_TEXTS = 6, MOST_OPEN = 5, LONGEST_NUMBER = 4;
    private static final int REACH = 0, SEES = 1, WORTH = 2, PARTS = 3;
    private static final int MOST_REACH = 9, MOST_WORTH = 99;
    private static final int FAR = 0, LIT = 1, MORE = 2, SECOND = 3, NUMBER = 4, CELL = 5, NAMES = 6;
    private static final String FIRST_LAW = "reach 3 ; sees lit or far < 2 ; worth 1 ;";

    private static final int MOST_SEED = 99999, MOST_SEEDS = 12;
    private static final long LOT_FACTOR = 48271L, LOT_MODULUS = 2147483647L;
    private static final int SHEETS = 4, MISSING = -1, BYTES = 0, SHORTS = 1, INTS = 2, SHEET_SIZE = 40;
    private static final int PER_GUARD = 4;

    private final Palace palace = new Palace();
    private final Guards guards = new Guards();
    private final Reader reader = new Reader();
    private final Texts texts = new Texts();
    private final Watch watch = new Watch(palace, guards, texts);
    private final Gaps gaps = new Gaps();
    private final Thief thief = new Thief();
    private final Image kept = new Image();
    private final Sheet[] sheets = new Sheet[SHEETS];

    public GuardsLookLeft() {
        for (int s = 0; s < SHEETS; s++) {
            sheets[s] = new Sheet();
        }
        for (int i = 0; i < FIRST_LAW.length(); i++) {
            reader.add(FIRST_LAW.charAt(i));
        }
        reader.read();
        reader.size = 0;
        texts.add(reader.codes, reader.ends);
    }

    // ---- what numbers may be

    private static boolean isWithin(int v, int most) {
        return v >= 0 && v <= most;
    }

    private static boolean isCell(int c) {
        return isWithin(c, CELLS - 1);
    }

    private static boolean areCells(long set) {
        return (set & ~ALL_CELLS) == 0;
    }

    private static boolean isLayer(int what) {
        return isWithin(what, LAYERS - 1);
    }

    private static boolean isSecond(int t) {
        return isWithin(t, SECONDS - 1);
    }

    private static boolean isSheet(int s) {
        return isWithin(s, SHEETS - 1);
    }

    private boolean isGuard(int g) {
        return isWithin(g, guards.number - 1);
    }

    // ---- cells and ways

    private static boolean isIn(long set, int c) {
        return (set >>> c & 1) != 0;
    }

    private static int leftOf(int way) {
        return (way + 3) % 4;
    }

    /** The cell beside another one; NONE: that would be outside. */
    private static int beside(int c, int way) {
        switch (way) {
            case 0: return c / SIDE < SIDE - 1 ? c + SIDE : NONE;
            case 1: return c % SIDE < SIDE - 1 ? c + 1 : NONE;
            case 2: return c / SIDE > 0 ? c - SIDE : NONE;
            default: return c % SIDE > 0 ? c - 1 : NONE;
        }
    }

    // ---- the palace, the law

    public long lay(int what, long set) {
        if (!isLayer(what) || !areCells(set)) {
            return NO;
        }
        long was = palace.layers[what];
        palace.layers[what] = set;
        watch.stale = true;
        return was;
    }

    public long laid(int what) {
        return isLayer(what) ? palace.layers[what] : NO;
    }

    public int put(int c, int what, int is) {
        if (!isCell(c)) {
            return NO_SUCH;
        }
        if (!isLayer(what) || !isWithin(is, 1)) {
            return WRONG;
        }
        boolean was = isIn(palace.layers[what], c);
        long others = palace.layers[what] & ~(1L << c);
        palace.layers[what] = others | (long) is << c;
        watch.stale = true;
        return was ? 1 : 0;
    }

    public int count(int what) {
        switch (what) {
            case 0: return guards.number;
            case 1: return Long.bitCount(palace.layers[WALLS]);
            case 2: return Long.bitCount(palace.layers[LAMPS]);
            case 3: return Long.bitCount(palace.layers[MIRRORS]);
            case 4: return texts.number;
            case 5: return texts.inForce;
            case 6: return reader.size;
            default: return BAD;
        }
    }

    public int feed(int n, int a, int b, int c, int d, int e) {
        if (n < 1 || n > 5 || !isByte(a) || !isByte(b) || !isByte(c) || !isByte(d) || !isByte(e)) {
            return BAD;
        }
        if (n > TAPE_SIZE - reader.size) {
            return FULL;
        }
        for (int i = 0; i < n; i++) {
            reader.add(i == 0 ? a : i == 1 ? b : i == 2 ? c : i == 3 ? d : e);
        }
        return reader.size;
    }

    private static boolean isByte(int v) {
        return isWithin(v, 255);
    }

    public int text() {
        if (texts.number >= MOST_TEXTS) {
            return FULL;
        }
        int fault = reader.read();
        reader.size = 0;
        return fault == NONE ? texts.add(reader.codes, reader.ends) : FAULTY - fault;
    }

    public int force(int t) {
        if (!isWithin(t, texts.number - 1)) {
            return BAD;
        }
        int was = texts.inForce;
        texts.inForce = t;
        watch.stale = true;
        return was;
    }

    public int asks(int part, int farLit, int more, int second, int numberCell) {
        if (!isWithin(part, PARTS - 1) || !isWithin(farLit, 99) || !isWithin(more, MOST_MORE)) {
            return BAD;
        }
        if (!isSecond(second) || !isWithin(numberCell, 999)) {
            return BAD;
        }
        texts.nameGuard(more, second, numberCell / 100);
        texts.nameCell(farLit / 10, farLit % 10, numberCell % 100);
        return texts.says(part);
    }

    // ---- guards

    public int guard(int kind, int cell, int wayLength, int more) {
        if (!isWithin(kind, PACING) || !isCell(cell) || !isWithin(wayLength, 39) || !isWithin(more, MOST_MORE)) {
            return BAD;
        }
        if (wayLength % 10 > MOST_LONG) {
            return BAD;
        }
        if (guards.number >= MOST_GUARDS) {
            return FULL;
        }
        watch.stale = true;
        return guards.add(kind, cell, wayLength / 10, wayLength % 10, more);
    }

    public int set(int g, int what, int v) {
        if (!isGuard(g)) {
            return NO_SUCH;
        }
        if (!isWithin(what, 1) || !isWithin(v, what == 0 ? MOST_AHEAD : MOST_LONG)) {
            return WRONG;
        }
        int[] row = what == 0 ? guards.aheads : guards.lengths;
        int was = row[g];
        row[g] = v;
        watch.stale = true;
        return was;
    }

    public int guardTold(int g, int what) {
        if (!isGuard(g)) {
            return NO_SUCH;
        }
        switch (what) {
            case 0: return guards.aheads[g];
            case 1: return guards.lengths[g];
            case 2: return guards.kinds[g];
            case 3: return guards.homes[g];
            case 4: return guards.ways[g];
            case 5: return guards.mores[g];
            default: return WRONG;
        }
    }

    public int at(int g, int t, int what) {
        if (!isGuard(g)) {
            return NO_SUCH;
        }
        if (!isSecond(t) || !isWithin(what, 2)) {
            return WRONG;
        }
        guards.walk(g, t, palace.layers[WALLS]);
        switch (what) {
            case 0: return guards.stands;
            case 1: return guards.turned;
            default: return guards.looks ? 1 : 0;
        }
    }

    // ---- what is seen

    public long sees(int g, int t) {
        return isGuard(g) && isSecond(t) ? watch.sight(g, t) : NO;
    }

    public long watched(int t) {
        return isSecond(t) ? seenNow()[t] : NO;
    }

    public int alone(int c) {
        if (!isCell(c)) {
            return NO_SUCH;
        }
        long[] seen = seenNow();
        int seconds = 0;
        for (int t = 0; t < SECONDS; t++) {
            if (!isIn(seen[t], c)) {
                seconds |= 1 << t;
            }
        }
        return seconds;
    }

    public int unseen(int c) {
        return isCell(c) ? gaps.greatest(seenNow(), 1L << c) : NO_SUCH;
    }

    public int worst(int what) {
        if (!isWithin(what, 3)) {
            return BAD;
        }
        if (what == 3) {
            return worthUnseen(seenNow());
        }
        int greatest = gaps.greatest(seenNow(), palace.floor());
        switch (what) {
            case 0: return greatest;
            case 1: return firstOf(gaps.widest);
            default: return greatest == SECONDS ? Long.bitCount(gaps.widest) : 0;
        }
    }

    /** Per second, the cells that are seen, as everything stands; to be read before anything else is supposed. */
    private long[] seenNow() {
        watch.refresh();
        return watch.seen;
    }

    private static int firstOf(long cells) {
        for (int c = 0; c < CELLS; c++) {
            if (isIn(cells, c)) {
                return c;
            }
        }
        return NONE;
    }

    private int worthUnseen(long[] seen) {
        int sum = 0;
        for (int t = 0; t < SECONDS; t++) {
            long lone = palace.floor() & ~seen[t];
            texts.nameGuard(0, t, 0);
            for (int c = 0; c < CELLS; c++) {
                if (isIn(lone, c)) {
                    texts.nameCell(0, palace.lit(c), c);
                    sum += texts.says(WORTH);
                }
            }
        }
        return sum;
    }

    // ---- a thief

    public int soon(int a, int b, int t) {
        if (!isCell(a) || !isCell(b)) {
            return NO_SUCH;
        }
        return isSecond(t) ? thief.soonest(seenNow(), palace.floor(), a, b, t) : WRONG;
    }

    public int path(int a, int b, int t, int k) {
        if (!isCell(a) || !isCell(b)) {
            return NO_SUCH;
        }
        if (!isSecond(t) || !isWithin(k, SECONDS)) {
            return WRONG;
        }
        int soonest = thief.soonest(seenNow(), palace.floor(), a, b, t);
        return k <= soonest ? thief.before(b, soonest, k) : NONE;
    }

    public long hides(int a, int t, int k) {
        if (!isCell(a) || !isSecond(t) || !isWithin(k, SECONDS)) {
            return NO;
        }
        thief.roam(seenNow(), palace.floor(), a, t, 0L);
        return thief.could[k];
    }

    public int when(int a, int b) {
        return isCell(a) && isCell(b) ? thief.starts(seenNow(), palace.floor(), a, b) : NO_SUCH;
    }

    public int more(int a, int b, int what) {
        if (!isCell(a) || !isCell(b)) {
            return NO_SUCH;
        }
        if (!isWithin(what, 3)) {
            return WRONG;
        }
        long floor = palace.floor();
        int fewestStarts = Integer.bitCount(thief.starts(seenNow(), floor, a, b));
        int best = NONE;
        for (int c = 0; c < CELLS; c++) {
            if (isIn(floor, c) && watch.supposeLaid(what % 2 == 0 ? LAMPS : MIRRORS, c)) {
                int starts = Integer.bitCount(thief.starts(watch.supposed, floor, a, b));
                if (starts < fewestStarts) {
                    fewestStarts = starts;
                    best = c;
                }
            }
        }
        return what < 2 ? best : fewestStarts;
    }

    // ---- shifts, bribes

    public int shift(int g, int what) {
        if (!isGuard(g)) {
            return NO_SUCH;
        }
        if (!isWithin(what, 1)) {
            return WRONG;
        }
        watch.refresh();
        int least = SECONDS + 1;
        int best = 0;
        for (int ahead = 0; ahead <= MOST_AHEAD; ahead++) {
            watch.supposeAhead(g, ahead);
            int greatest = gaps.greatest(watch.supposed, palace.floor());
            if (greatest < least) {
                least = greatest;
                best = ahead;
            }
        }
        return what == 0 ? best : least;
    }

    public int holds(long set, int k) {
        if (!areCells(set)) {
            return NO_SUCH;
        }
        if (!isWithin(k, SECONDS)) {
            return WRONG;
        }
        return holdsWithout(0, set, k) ? 1 : 0;
    }

    public int bribes(long set, int k) {
        if (!areCells(set) || !isWithin(k, SECONDS)) {
            return 0;
        }
        int sets = 0;
        for (int bribed = 0; bribed < 1 << guards.number; bribed++) {
            if (holdsWithout(bribed, set, k)) {
                sets |= 1 << bribed;
            }
        }
        return sets;
    }

    public int fewest(long set, int k, int what) {
        if (!areCells(set)) {
            return NO_SUCH;
        }
        if (!isWithin(k, SECONDS) || !isWithin(what, 1)) {
            return WRONG;
        }
        int all = (1 << guards.number) - 1;
        int best = NONE;
        int number = MOST_GUARDS + 1;
        for (int stay = 0; stay <= all; stay++) {
            if (Integer.bitCount(stay) < number && holdsWithout(all & ~stay, set, k)) {
                number = Integer.bitCount(stay);
                best = stay;
            }
        }
        return what == 0 || best == NONE ? best : number;
    }

    private boolean holdsWithout(int bribed, long set, int k) {
        watch.refresh();
        watch.supposeBribed(bribed);
        return gaps.greatest(watch.supposed, set & palace.floor()) <= k;
    }

    // ---- told seconds

    public int judge(int s, int c) {
        int refusal = refusalOfTold(s, c);
        return refusal != 0 ? refusal : sheets[s].firstOther(seenNow(), c);
    }

    public long which(int s) {
        if (refusalOfTold(s, 0) != 0) {
            return NO;
        }
        long cells = 0;
        for (int c = 0; c < CELLS; c++) {
            if (sheets[s].firstOther(seenNow(), c) == NONE) {
                cells |= 1L << c;
            }
        }
        return cells;
    }

    public int laws(int s, int c) {
        int refusal = refusalOfTold(s, c);
        if (refusal != 0) {
            return refusal;
        }
        int fitting = 0;
        for (int t = 0; t < texts.number; t++) {
            watch.supposeLaw(t);
            if (sheets[s].firstOther(watch.supposed, c) == NONE) {
                fitting |= 1 << t;
            }
        }
        return fitting;
    }

    public int gone(int s, int c) {
        if (refusalOfTold(s, c) != 0) {
            return 0;
        }
        watch.refresh();
        int sets = 0;
        for (int bribed = 0; bribed < 1 << guards.number; bribed++) {
            watch.supposeBribed(bribed);
            if (sheets[s].firstOther(watch.supposed, c) == NONE) {
                sets |= 1 << bribed;
            }
        }
        return sets;
    }

    public int film(int s, int c) {
        if (!isSheet(s)) {
            return BAD;
        }
        if (!isCell(c)) {
            return NO_SUCH;
        }
        long[] seen = seenNow();
        sheets[s].become(INTS, SECONDS);
        for (int t = 0; t < SECONDS; t++) {
            sheets[s].row[t] = isIn(seen[t], c) ? 1 : 0;
        }
        return SECONDS;
    }

    /** Why a sheet can't tell of a cell's seconds; 0: it can. */
    private int refusalOfTold(int s, int c) {
        if (!isSheet(s)) {
            return BAD;
        }
        if (sheets[s].sort == MISSING) {
            return NOTHING;
        }
        if (sheets[s].size != SECONDS) {
            return BAD;
        }
        return isCell(c) ? 0 : NO_SUCH;
    }

    // ---- rounds by lot

    public int drawn(int seed) {
        if (!isWithin(seed, MOST_SEED)) {
            return BAD;
        }
        watch.supposeLots(seed);
        return gaps.greatest(watch.supposed, palace.floor());
    }

    public long mean(int seed, int seeds, int part) {
        if (!isWithin(seed, MOST_SEED) || seeds < 1 || seeds > MOST_SEEDS || !isWithin(part, 1)) {
            return NO;
        }
        int sum = 0;
        for (int i = 0; i < seeds; i++) {
            watch.supposeLots(seed + i);
            sum += gaps.greatest(watch.supposed, palace.floor());
        }
        int common = 1;
        for (int d = 2; d <= seeds; d++) {
            if (sum % d == 0 && seeds % d == 0) {
                common = d;
            }
        }
        return (part == 0 ? sum : seeds) / common;
    }

    public int image() {
        kept.take(palace, guards, texts.inForce);
        return guards.number;
    }

    public int back() {
        if (!kept.taken) {
            return STATE;
        }
        kept.giveBack(palace, guards);
        texts.inForce = kept.law;
        watch.stale = true;
        return guards.number;
    }

    // ---- the host

    public int sheet(int s, int sort, int n) {
        if (!isSheet(s) || sort < MISSING || sort > INTS) {
            return BAD;
        }
        if (sort != MISSING && n > SHEET_SIZE) {
            return BAD;
        }
        if (sort != MISSING && n < 0) {
            return BELOW;
        }
        sheets[s].become(sort, sort == MISSING ? 0 : n);
        return 1;
    }

    public int cell(int s, int i, int v) {
        if (!isSheet(s)) {
            return BAD;
        }
        Sheet sheet = sheets[s];
        if (sheet.sort == MISSING) {
            return NOTHING;
        }
        if (!isWithin(i, sheet.size - 1)) {
            return OUTSIDE;
        }
        sheet.row[i] = sheet.sort == BYTES ? (byte) v : sheet.sort == SHORTS ? (short) v : v;
        return 1;
    }

    public int copy(int s, int i, int other, int j, int n) {
        if (!isSheet(s) || !isSheet(other)) {
            return BAD;
        }
        Sheet from = sheets[s];
        Sheet to = sheets[other];
        if (from.sort == MISSING || to.sort == MISSING) {
            return NOTHING;
        }
        if (from.sort != to.sort) {
            return UNLIKE;
        }
        if (!from.hasRoom(i, n) || !to.hasRoom(j, n)) {
            return OUTSIDE;
        }
        System.arraycopy(from.row, i, to.row, j, n);
        return n;
    }

    public int guardsBy(int s, int sort, int at, int n) {
        if (!isSheet(s) || !isWithin(sort, INTS) || !isWithin(n, MOST_GUARDS)) {
            return BAD;
        }
        Sheet sheet = sheets[s];
        if (sheet.sort == MISSING) {
            return NOTHING;
        }
        if (sheet.sort != sort) {
            return UNLIKE;
        }
        int came = 0;
        int place = at;
        for (int i = 0; i < n; i++) {
            if (!sheet.hasRoom(place, PER_GUARD)) {
                return OUTSIDE;
            }
            int[] row = sheet.row;
            if (guard(row[place], row[place + 1], row[place + 2], row[place + 3]) >= 0) {
                came++;
            }
            place += PER_GUARD;
        }
        return came;
    }

    public int taken(int i, int kind) {
        if (!isWithin(kind, PACING + 1)) {
            return BAD;
        }
        if (!isWithin(i, CELLS + MOST_GUARDS - 1)) {
            return OUTSIDE;
        }
        int lies = i < CELLS ? palace.lying(i) : 0;
        if (i < CELLS ? lies == 0 : !isGuard(i - CELLS)) {
            return NOTHING;
        }
        if (i < CELLS) {
            return kind > PACING ? lies : UNLIKE;
        }
        return kind <= PACING && guards.isOf(i - CELLS, kind) ? i - CELLS : UNLIKE;
    }

    /** Which cells are walls, lamps, mirrors. */
    private static final class Palace {
        final long[] layers = new long[LAYERS];

        /** The cells that are no walls. */
        long floor() {
            return ALL_CELLS & ~layers[WALLS];
        }

        int lit(int c) {
            return isIn(layers[LAMPS], c) ? 1 : 0;
        }

        int lying(int c) {
            int sum = 0;
            for (int what = 0; what < LAYERS; what++) {
                if (isIn(layers[what], c)) {
                    sum += 1 << what;
                }
            }
            return sum;
        }
    }

    /** The guards by their numbers, and where one's walk has brought him. */
    private static final class Guards {
        /** The kind that each kind is one of (a plain guard: himself). */
        private static final int[] KIND_ABOVE = {GUARD, GUARD, GUARD, FIXED, LAME, GUARD};
        private static final int[] WAY_ADDS = {SIDE, 1, -SIDE, -1};

        final int[] kinds = new int[MOST_GUARDS];
        final int[] homes = new int[MOST_GUARDS];
        final int[] ways = new int[MOST_GUARDS];
        final int[] mores = new int[MOST_GUARDS];
        final int[] lengths = new int[MOST_GUARDS];
        final int[] aheads = new int[MOST_GUARDS];
        int number;

        /** What the last walk() found. */
        int stands, turned;
        boolean looks;

        int add(int kind, int home, int way, int length, int more) {
            if (number >= MOST_GUARDS) {
                return FULL;
            }
            kinds[number] = kind;
            homes[number] = home;
            ways[number] = way;
            mores[number] = more;
            lengths[number] = length;
            aheads[number] = 0;
            return number++;
        }

        boolean isOf(int g, int kind) {
            return kind == GUARD || kind == kinds[g] || kind == KIND_ABOVE[kinds[g]];
        }

        /** Finds where a guard stands at a second, how he is turned, and whether he looks. */
        void walk(int g, int t, long walls) {
            int own = (t + aheads[g]) % SECONDS;
            int beat = beat(g, walls);
            int left = beat > 0 ? steps(kinds[g], own) % (2 * beat) : 0;
            int away = left <= beat ? left : 2 * beat - left;
            stands = homes[g] + away * WAY_ADDS[ways[g]];
            turned = beat > 0 && left >= beat ? (ways[g] + 2) % 4 : ways[g];
            if (kinds[g] == TURNING) {
                turned = (turned + 3 * (own / (mores[g] + 1))) % 4;
            }
            looks = isLooking(g, own);
        }

        /** How many cells there are on his beat, but for his home. */
        private int beat(int g, long walls) {
            int c = homes[g];
            for (int cells = 0; cells < lengths[g]; cells++) {
                c = beside(c, ways[g]);
                if (c == NONE || isIn(walls, c)) {
                    return cells;
                }
            }
            return lengths[g];
        }

        private static int steps(int kind, int own) {
            switch (kind) {
                case FIXED:
                case TURNING: return 0;
                case LAME:
                case ASLEEP: return own / 2;
                case PACING: return own * 2;
                default: return own;
            }
        }

        private boolean isLooking(int g, int own) {
            switch (kinds[g]) {
                case ASLEEP: return own % (mores[g] + 2) != 0;
                case PACING: return own >= mores[g];
                default: return true;
            }
        }
    }

    /**
     * The texts, each as codes that are gone through with a stack, and what the law says.
     * A code is a number, or one of those below.
     */
    private static final class Texts {
        /** The codes -1 .. -6 stand for the names. */
        static final int FIRST_NAME = -1, LAST_NAME = -NAMES;
        static final int NOT = -7, NEGATIVE = -8;
        static final int OR = -9, AND = -10, LESS = -11, SAME = -12, PLUS = -13, MINUS = -14, TIMES = -15;

        private final int[][] codes = new int[MOST_TEXTS][TAPE_SIZE];
        /** Per text and part, the place behind its last code. */
        private final int[][] ends = new int[MOST_TEXTS][PARTS];
        int number;
        int inForce;
        private final int[] names = new int[NAMES];
        private final int[] stack = new int[TAPE_SIZE];

        int add(int[] newCodes, int[] newEnds) {
            if (number >= MOST_TEXTS) {
                return FULL;
            }
            System.arraycopy(newCodes, 0, codes[number], 0, TAPE_SIZE);
            System.arraycopy(newEnds, 0, ends[number], 0, PARTS);
            return number++;
        }

        void nameGuard(int more, int second, int guardNumber) {
            names[MORE] = more;
            names[SECOND] = second;
            names[NUMBER] = guardNumber;
        }

        void nameCell(int far, int lit, int c) {
            names[FAR] = far;
            names[LIT] = lit;
            names[CELL] = c;
        }

        /** What a part of the law says of the names as they were told last, within its bounds. */
        int says(int part) {
            int value = value(part);
            if (part == SEES) {
                return value != 0 ? 1 : 0;
            }
            return Math.max(0, Math.min(value, part == REACH ? MOST_REACH : MOST_WORTH));
        }

        /** The reader writes whole expressions alone: a stack too high or too low for a code never comes. */
        private int value(int part) {
            int[] row = codes[inForce];
            int end = ends[inForce][part];
            int top = 0;
            for (int i = part == REACH ? 0 : ends[inForce][part - 1]; i < end; i++) {
                int code = row[i];
                if (code >= LAST_NAME && top < TAPE_SIZE) {
                    stack[top] = code >= 0 ? code : names[FIRST_NAME - code];
                    top++;
                } else if (code >= NEGATIVE && code <= NOT && top >= 1) {
                    stack[top - 1] = code == NEGATIVE ? -stack[top - 1] : stack[top - 1] == 0 ? 1 : 0;
                } else if (top >= 2) {
                    top--;
                    stack[top - 1] = joined(code, stack[top - 1], stack[top]);
                }
            }
            return top > 0 ? stack[top - 1] : 0;
        }

        private static int joined(int code, int a, int b) {
            switch (code) {
                case OR: return (a | b) != 0 ? 1 : 0;
                case AND: return a != 0 && b != 0 ? 1 : 0;
                case LESS: return a < b ? 1 : 0;
                case SAME: return a == b ? 1 : 0;
                case PLUS: return a + b;
                case MINUS: return a - b;
                default: return a * b;
            }
        }
    }

    /**
     * The tape, and how a text is read from it. Each method that reads something begins with its first token
     * at hand and ends with the one behind it at hand; where one fails, the token at hand is the fault.
     */
    private static final class Reader {
        /** Tokens; a sign is told by its byte, all of which are above these. */
        private static final int END = 0, STRAY = 1, DIGITS = 2, NAME = 3, KEY_REACH = 4, KEY_SEES = 5, KEY_WORTH = 6;
        private static final int KEY_OR = 7, KEY_AND = 8, KEY_NOT = 9;
        private static final int[] KEY_OF_PART = {KEY_REACH, KEY_SEES, KEY_WORTH};

        private final int[] tape = new int[TAPE_SIZE];
        int size;
        /** What was read, as the texts have it. */
        final int[] codes = new int[TAPE_SIZE];
        final int[] ends = new int[PARTS];
        private int written;
        /** Where the token at hand begins, and what stands behind it. */
        private int begin, behind;
        private int token;
        /** Of digits their number, of a name its code. */
        private int tokenCode;

        void add(int b) {
            if (size < TAPE_SIZE) {
                tape[size++] = b;
            }
        }

        /** Reads the tape; NONE, or the place of its fault. */
        int read() {
            written = 0;
            behind = 0;
            next();
            for (int part = 0; part < PARTS; part++) {
                if (token != KEY_OF_PART[part]) {
                    return begin;
                }
                next();
                if (!readEither(0) || token != ';') {
                    return begin;
                }
                next();
                ends[part] = written;
            }
            return token == END ? NONE : begin;
        }

        /** An E, while so many of ( not - are open. */
        private boolean readEither(int open) {
            if (!readBoth(open)) {
                return false;
            }
            for (int i = 0; i < TAPE_SIZE && token == KEY_OR; i++) {
                next();
                if (!readBoth(open)) {
                    return false;
                }
                write(Texts.OR);
            }
            return true;
        }

        /** An AND. */
        private boolean readBoth(int open) {
            if (!readNot(open)) {
                return false;
            }
            for (int i = 0; i < TAPE_SIZE && token == KEY_AND; i++) {
                next();
                if (!readNot(open)) {
                    return false;
                }
                write(Texts.AND);
            }
            return true;
        }

        private boolean readNot(int open) {
            if (token == KEY_NOT) {
                if (open >= MOST_OPEN) {
                    return false;
                }
                next();
                if (!readNot(open + 1)) {
                    return false;
                }
                write(Texts.NOT);
                return true;
            }
            if (!readSum(open)) {
                return false;
            }
            if (token != '<' && token != '=') {
                return true;
            }
            int sign = token == '<' ? Texts.LESS : Texts.SAME;
            next();
            if (!readSum(open)) {
                return false;
            }
            write(sign);
            return true;
        }

        private boolean readSum(int open) {
            if (!readTerm(open)) {
                return false;
            }
            for (int i = 0; i < TAPE_SIZE && (token == '+' || token == '-'); i++) {
                int sign = token == '+' ? Texts.PLUS : Texts.MINUS;
                next();
                if (!readTerm(open)) {
                    return false;
                }
                write(sign);
            }
            return true;
        }

        private boolean readTerm(int open) {
            if (!readOne(open)) {
                return false;
            }
            for (int i = 0; i < TAPE_SIZE && token == '*'; i++) {
                next();
                if (!readOne(open)) {
                    return false;
                }
                write(Texts.TIMES);
            }
            return true;
        }

        private boolean readOne(int open) {
            if (token == DIGITS || token == NAME) {
                write(tokenCode);
                next();
                return true;
            }
            if (token != '-' && token != '(' || open >= MOST_OPEN) {
                return false;
            }
            if (token == '-') {
                next();
                if (!readOne(open + 1)) {
                    return false;
                }
                write(Texts.NEGATIVE);
                return true;
            }
            next();
            if (!readEither(open + 1) || token != ')') {
                return false;
            }
            next();
            return true;
        }

        private void write(int code) {
            if (written < TAPE_SIZE) {
                codes[written++] = code;
            }
        }

        /** Takes the next token to hand. */
        private void next() {
            begin = behind;
            while (begin < size && (tape[begin] == ' ' || tape[begin] == '\n')) {
                begin++;
            }
            behind = begin;
            if (begin >= size) {
                token = END;
            } else if (isLetter(tape[begin])) {
                takeWord();
            } else if (isDigit(tape[begin])) {
                takeDigits();
            } else {
                behind++;
                token = isSign(tape[begin]) ? tape[begin] : STRAY;
            }
        }

        private void takeWord() {
            while (behind < size && isLetter(tape[behind])) {
                behind++;
            }
            int name = nameAtHand();
            token = name == NONE ? keyAtHand() : NAME;
            tokenCode = Texts.FIRST_NAME - name;
        }

        private void takeDigits() {
            tokenCode = 0;
            while (behind < size && isDigit(tape[behind])) {
                if (behind - begin < LONGEST_NUMBER) {
                    tokenCode = tokenCode * 10 + tape[behind] - '0';
                }
                behind++;
            }
            token = behind - begin > LONGEST_NUMBER ? STRAY : DIGITS;
        }

        private int nameAtHand() {
            return isWord("far") ? FAR : isWord("lit") ? LIT : isWord("more") ? MORE
                : isWord("second") ? SECOND : isWord("number") ? NUMBER : isWord("cell") ? CELL : NONE;
        }

        private int keyAtHand() {
            return isWord("reach") ? KEY_REACH : isWord("sees") ? KEY_SEES : isWord("worth") ? KEY_WORTH
                : isWord("or") ? KEY_OR : isWord("and") ? KEY_AND : isWord("not") ? KEY_NOT : STRAY;
        }

        private boolean isWord(String word) {
            if (word.length() != behind - begin) {
                return false;
            }
            for (int i = 0; i < word.length(); i++) {
                if (tape[begin + i] != word.charAt(i)) {
                    return false;
                }
            }
            return true;
        }

        private static boolean isLetter(int b) {
            return b >= 'a' && b <= 'z';
        }

        private static boolean isDigit(int b) {
            return b >= '0' && b <= '9';
        }

        private static boolean isSign(int b) {
            return b >= '(' && b <= '+' || b == '-' || b >= ';' && b <= '=';
        }
    }

    /**
     * What is seen at each second: as everything stands (seen), and as something that is supposed
     * would make it (supposed); what is supposed is as it was, when a call is over.
     */
    private static final class Watch {
        private final Palace palace;
        private final Guards guards;
        private final Texts texts;

        /** Whether anything has changed since the rows of what is seen were found. */
        boolean stale = true;
        final long[] seen = new long[SECONDS];
        final long[] supposed = new long[SECONDS];
        private final long[][] seenBy = new long[MOST_GUARDS][SECONDS];
        /** Per guard, all cells in which he stands, or through which his sight goes, at any second. */
        private final long[] touched = new long[MOST_GUARDS];
        /** The cells of the last sight(), seen or not, and where he stood. */
        private long trail;

        Watch(Palace palace, Guards guards, Texts texts) {
            this.palace = palace;
            this.guards = guards;
            this.texts = texts;
        }

        /** The cells that a guard sees at a second. */
        long sight(int g, int t) {
            guards.walk(g, t, palace.layers[WALLS]);
            int c = guards.stands;
            trail = 1L << c;
            if (!guards.looks) {
                return 0;
            }
            texts.nameGuard(guards.mores[g], t, g);
            texts.nameCell(0, palace.lit(c), c);
            int reach = texts.says(REACH);
            int way = leftOf(guards.turned);
            long cells = 0;
            for (int far = 1; far <= reach; far++) {
                c = beside(c, way);
                if (c == NONE || isIn(palace.layers[WALLS], c)) {
                    return cells;
                }
                trail |= 1L << c;
                texts.nameCell(far, palace.lit(c), c);
                if (texts.says(SEES) != 0) {
                    cells |= 1L << c;
                }
                if (isIn(palace.layers[MIRRORS], c)) {
                    way = leftOf(way);
                }
            }
            return cells;
        }

        void refresh() {
            if (!stale) {
                return;
            }
            for (int g = 0; g < guards.number; g++) {
                touched[g] = 0;
                for (int t = 0; t < SECONDS; t++) {
                    long cells = sight(g, t);
                    seenBy[g][t] = cells | 1L << guards.stands;
                    touched[g] |= trail;
                }
            }
            supposeBribed(0);
            System.arraycopy(supposed, 0, seen, 0, SECONDS);
            stale = false;
        }

        /** Adds what is seen by a guard, as refresh() found it. */
        private void addKnown(int g) {
            for (int t = 0; t < SECONDS; t++) {
                supposed[t] |= seenBy[g][t];
            }
        }

        /** Adds what is seen by a guard, as it would be now. */
        private void addFound(int g) {
            for (int t = 0; t < SECONDS; t++) {
                long cells = sight(g, t);
                supposed[t] |= cells | 1L << guards.stands;
            }
        }

        /** After refresh(), as the next two. */
        void supposeBribed(int bribed) {
            Arrays.fill(supposed, 0L);
            for (int g = 0; g < guards.number; g++) {
                if (!isIn(bribed, g)) {
                    addKnown(g);
                }
            }
        }

        /** One more lamp or mirror: whether anything is seen otherwise by it. */
        boolean supposeLaid(int what, int c) {
            long was = palace.layers[what];
            palace.layers[what] = was | 1L << c;
            Arrays.fill(supposed, 0L);
            for (int g = 0; g < guards.number; g++) {
                if (isIn(touched[g], c)) {
                    addFound(g);
                } else {
                    addKnown(g);
                }
            }
            palace.layers[what] = was;
            long others = 0;
            for (int t = 0; t < SECONDS; t++) {
                others |= supposed[t] ^ seen[t];
            }
            return others != 0;
        }

        void supposeAhead(int g, int ahead) {
            int was = guards.aheads[g];
            guards.aheads[g] = ahead;
            supposeBribed(1 << g);
            addFound(g);
            guards.aheads[g] = was;
        }

        void supposeLaw(int law) {
            int was = texts.inForce;
            texts.inForce = law;
            Arrays.fill(supposed, 0L);
            for (int g = 0; g < guards.number; g++) {
                addFound(g);
            }
            texts.inForce = was;
        }

        void supposeLots(int seed) {
            Arrays.fill(supposed, 0L);
            long lot = seed + 1L;
            for (int g = 0; g < guards.number; g++) {
                lot = lot * LOT_FACTOR % LOT_MODULUS;
                int was = guards.aheads[g];
                guards.aheads[g] = (int) (lot % SECONDS);
                addFound(g);
                guards.aheads[g] = was;
            }
        }
    }

    /** Finds the greatest gap of some cells, all cells at once. */
    private static final class Gaps {
        /** Those of the cells that have the last greatest gap. */
        long widest;
        /** Per second, the cells that aren't seen from then on, as many seconds as have been looked at. */
        private final long[] runs = new long[SECONDS];

        int greatest(long[] seen, long cells) {
            widest = cells;
            for (int t = 0; t < SECONDS; t++) {
                runs[t] = cells & ~seen[t];
            }
            for (int length = 0; length < SECONDS; length++) {
                long longer = 0;
                for (int t = 0; t < SECONDS; t++) {
                    longer |= runs[t];
                    runs[t] &= ~seen[(t + length + 1) % SECONDS];
                }
                if (longer == 0) {
                    return length;
                }
                widest = longer;
            }
            return SECONDS;
        }
    }

    /** Where a thief can be whom nobody sees. */
    private static final class Thief {
        private static final long FIRST_COLUMN = 0x41041041L;

        /** Per second more, the cells in which he can be, as far as the last roam() looked. */
        final long[] could = new long[SECONDS + 1];

        /** Finds where he can be, till he is in one of the goals: how many seconds more that takes; NONE: more than 24. */
        int roam(long[] seen, long floor, int a, int t, long goals) {
            long cells = 1L << a;
            for (int k = 0; k <= SECONDS; k++) {
                if (k > 0) {
                    cells = withBeside(cells);
                }
                cells &= floor & ~seen[(t + k) % SECONDS];
                could[k] = cells;
                if ((cells & goals) != 0) {
                    return k;
                }
                if (cells == 0) {
                    Arrays.fill(could, k, SECONDS + 1, 0L);
                    return NONE;
                }
            }
            return NONE;
        }

        int soonest(long[] seen, long floor, int a, int b, int t) {
            return roam(seen, floor, a, t, 1L << b);
        }

        private static long withBeside(long cells) {
            long upDown = cells << SIDE | cells >>> SIDE;
            long right = cells << 1 & ~FIRST_COLUMN;
            long left = (cells & ~FIRST_COLUMN) >>> 1;
            return (cells | upDown | right | left) & ALL_CELLS;
        }

        /** The seconds (bits) at which a way from a to b can begin. */
        int starts(long[] seen, long floor, int a, int b) {
            int seconds = 0;
            for (int t = 0; t < SECONDS; t++) {
                if (soonest(seen, floor, a, b, t) != NONE) {
                    seconds |= 1 << t;
                }
            }
            return seconds;
        }

        /** Where he was after k seconds, who is in b after some more, as the last roam() found. */
        int before(int b, int seconds, int k) {
            int c = b;
            for (int i = seconds; i > k; i--) {
                c = cameFrom(c, could[i - 1]);
            }
            return c;
        }

        private static int cameFrom(int c, long cells) {
            if (isIn(cells, c)) {
                return c;
            }
            for (int way = 0; way < 4; way++) {
                int other = beside(c, way);
                if (other != NONE && isIn(cells, other)) {
                    return other;
                }
            }
            return c;
        }
    }

    /** What an image keeps. */
    private static final class Image {
        boolean taken;
        int law;
        private int number;
        private final long[] layers = new long[LAYERS];
        private final int[] aheads = new int[MOST_GUARDS];
        private final int[] lengths = new int[MOST_GUARDS];

        void take(Palace palace, Guards guards, int inForce) {
            taken = true;
            law = inForce;
            number = guards.number;
            System.arraycopy(palace.layers, 0, layers, 0, LAYERS);
            System.arraycopy(guards.aheads, 0, aheads, 0, MOST_GUARDS);
            System.arraycopy(guards.lengths, 0, lengths, 0, MOST_GUARDS);
        }

        void giveBack(Palace palace, Guards guards) {
            guards.number = number;
            System.arraycopy(layers, 0, palace.layers, 0, LAYERS);
            System.arraycopy(aheads, 0, guards.aheads, 0, MOST_GUARDS);
            System.arraycopy(lengths, 0, guards.lengths, 0, MOST_GUARDS);
        }
    }

    /** A row of numbers of a sort; a row of the greatest size serves for each. */
    private static final class Sheet {
        int sort = MISSING;
        int size;
        final int[] row = new int[SHEET_SIZE];

        void become(int newSort, int newSize) {
            sort = newSort;
            size = newSize;
            Arrays.fill(row, 0);
        }

        /** Whether n numbers from a place on are inside (n and place may be any). */
        boolean hasRoom(int place, int n) {
            return n >= 0 && n <= size && place >= 0 && place <= size - n;
        }

        /** The first second at which a cell is seen otherwise than the row tells; NONE: there is none. */
        int firstOther(long[] seen, int c) {
            for (int t = 0; t < SECONDS; t++) {
                if (row[t] != (isIn(seen[t], c) ? 1 : 0)) {
                    return t;
                }
            }
            return NONE;
        }
    }
}
