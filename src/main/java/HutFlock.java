/**
 * Beach huts that migrate: a front is read from a text, winters pass over it,
 * and what would come of it is told. ../shared/DOC.md says what each call does.
 *
 * No call makes an object: all rows are made with the HutFlock and used again.
 */
public final class HutFlock {
    public static final int BAD = -1, FULL = -2, FINDING = -3, STATE = -4, SPENT = -6, NONE = -9;

    private static final int NOTHING = 1, BEYOND = 2, UNLIKE = 3, NOUGHT = 4, SIZE = 5;

    private static final int ROWS = 6, ROW_PLACES = 40, TEXTS = 4, TEXT_PLACES = 60;
    private static final int HUTS = 6, BRICKS = 10, WINDS = 10, MOST_FOOD = 40, MOST_STRENGTH = 9, MOST_BROWN = 9;
    private static final int DEEDS = 40, KEPT = 3, WINTERS_AHEAD = 40, MORE_STRENGTH = 20;
    private static final int LEGS = 4, FLIGHTS = 4, MOST_TIRED = 11, MOST_FLOWN = 40, TURNS = 6, DOZEN = 12;
    private static final int MOST_LOTS = 20, WHATS_OF_HUT = 7, WHATS_OF_COUNT = 11;
    private static final long LOT_FACTOR = 48271L, LOT_MODULUS = 2147483647L;

    private final Shelf rows = new Shelf(ROWS, ROW_PLACES);
    private final Shelf texts = new Shelf(TEXTS, TEXT_PLACES);
    private final Reader reader = new Reader();
    /** The front as it was read: front() lets kept ones go, so all kept ones began so, too. */
    private final Flock first = new Flock();
    /** The front as it is: always first, with the deeds of log done to it. */
    private final Flock now = new Flock();
    /** For what is only thought of, so that nothing is truly done. */
    private final Flock aside = new Flock();
    private final Log log = new Log(0);
    private final Log[] kept = {new Log(Log.MISSING), new Log(Log.MISSING), new Log(Log.MISSING)};
    private final Vee vees = new Vee();
    private final Bricks bricks = new Bricks();
    private final Flights flights = new Flights();
    private final int[] found = new int[SIZE + 1];
    private int latestFinding = 0;
    private int told = 0;
    private long above = 0;
    private long below = 1;

    public HutFlock() {
    }

    // ---- 1 rows, texts, fronts

    public int row(int r, int n) {
        return makeOn(rows, r, n);
    }

    public int lay(int r, int i, int v) {
        int refused = refusedPlace(rows, r, i);
        if (refused != 0) {
            return refused;
        }
        told = rows.get(r, i);
        rows.set(r, i, v);
        return 1;
    }

    public int at(int r, int i) {
        int refused = refusedPlace(rows, r, i);
        if (refused != 0) {
            return refused;
        }
        told = rows.get(r, i);
        return 1;
    }

    public int tear(int r) {
        int refused = refusedMissing(rows, r);
        if (refused != 0) {
            return refused;
        }
        rows.drop(r);
        return 1;
    }

    public int copy(int r, int i, int to, int j, int n) {
        if (!rows.knows(r) || !rows.knows(to)) {
            return BAD;
        }
        if (n < 0) {
            return find(SIZE);
        }
        if (!rows.has(r) || !rows.has(to)) {
            return find(NOTHING);
        }
        if (!rows.holdsRun(r, i, n) || !rows.holdsRun(to, j, n)) {
            return find(BEYOND);
        }
        rows.move(r, i, to, j, n);
        return 1;
    }

    public int mean(int r) {
        int refused = refusedMissing(rows, r);
        if (refused != 0) {
            return refused;
        }
        int size = rows.size(r);
        if (size <= 0) {
            return find(NOUGHT);
        }
        told = (int) (rows.sum(r) / size);
        return 1;
    }

    public int text(int t, int n) {
        int made = makeOn(texts, t, n);
        for (int i = 0; i < made; i++) {
            texts.set(t, i, Reader.BLANK);
        }
        return made;
    }

    public int put(int t, int i, int v) {
        int refused = refusedPlace(texts, t, i);
        if (refused != 0) {
            return refused;
        }
        int was = texts.get(t, i);
        texts.set(t, i, (byte) v);
        return was + 1000;
    }

    public int fault(int t) {
        int refused = refusedMissing(texts, t);
        return refused != 0 ? refused : reader.read(texts, t, aside);
    }

    public int front(int t) {
        int refused = refusedMissing(texts, t);
        if (refused != 0) {
            return refused;
        }
        if (reader.read(texts, t, aside) != NONE) {
            return STATE;
        }
        first.become(aside);
        now.become(first);
        log.size = 0;
        for (int k = 0; k < kept.length; k++) {
            kept[k].size = Log.MISSING;
        }
        return now.huts;
    }

    public int hut(int i, int what) {
        if (!now.knows(i) || !within(what, 0, WHATS_OF_HUT - 1)) {
            return BAD;
        }
        told = now.ofHut(i, what);
        return 1;
    }

    public int mark(int i, int kind) {
        if (!now.knows(i) || !within(kind, Kind.PINK, Kind.KINDS - 1)) {
            return BAD;
        }
        if (!Kind.isOf(now.kind[i], kind)) {
            return find(UNLIKE);
        }
        int wind = now.windDue();
        int tired = Kind.tiredBy(now.kind[i], wind);
        switch (kind) {
            case Kind.PINK:
                return tired - Kind.tiredBy(Kind.HUT, wind);
            case Kind.LILAC:
                return Kind.stays(now.kind[i], wind) ? 1 : 0;
            case Kind.GUARD:
                return Kind.tiredBy(Kind.HUT, wind) - tired + 10;
            case Kind.CUCKOO:
                return now.hostOf(i);
            default:
                return now.howManyLessLate(i);
        }
    }

    public int tires(int i, int wind) {
        if (!now.knows(i) || !within(wind, 0, WINDS - 1)) {
            return BAD;
        }
        int kind = now.kind[i];
        return Kind.tiredBy(kind, wind) + (Kind.stays(kind, wind) ? 10 : 0);
    }

    // ---- 2 deeds

    public int winter() {
        if (now.huts == 0) {
            return STATE;
        }
        if (log.lacks(1)) {
            return FULL;
        }
        act(Log.code(Log.WINTER, 0, 0));
        return now.howManyThere();
    }

    public int feed(int i) {
        if (!now.knows(i)) {
            return BAD;
        }
        if (!now.isThere(i)) {
            return STATE;
        }
        if (now.food <= 0) {
            return SPENT;
        }
        if (log.lacks(1)) {
            return FULL;
        }
        act(Log.code(Log.FEED, i, 0));
        return now.strength[i];
    }

    public int sell(int i, int j) {
        if (!now.knows(i) || !now.knows(j) || i == j) {
            return BAD;
        }
        if (!now.isThere(i) || !now.isThere(j)) {
            return STATE;
        }
        if (log.lacks(1)) {
            return FULL;
        }
        act(Log.code(Log.SELL, i, j));
        return now.home[i];
    }

    public int storm(int i) {
        if (!now.knows(i)) {
            return BAD;
        }
        if (!now.isThere(i)) {
            return STATE;
        }
        if (log.lacks(1)) {
            return FULL;
        }
        act(Log.code(Log.STORM, i, 0));
        return now.howManyThere();
    }

    public int undo(int n) {
        if (!within(n, 0, log.size)) {
            return BAD;
        }
        int undone = log.size - n;
        log.size = n;
        doAnew();
        return undone;
    }

    public int keep(int k) {
        if (!within(k, 0, KEPT - 1)) {
            return BAD;
        }
        if (now.huts == 0) {
            return STATE;
        }
        kept[k].become(log);
        return log.size;
    }

    public int on(int k) {
        if (!within(k, 0, KEPT - 1)) {
            return BAD;
        }
        if (kept[k].size == Log.MISSING) {
            return find(NOTHING);
        }
        log.become(kept[k]);
        doAnew();
        return log.size;
    }

    // ---- 3 winters to come

    public int then(int i, int n) {
        if (!now.knows(i) || !within(n, 0, WINTERS_AHEAD)) {
            return BAD;
        }
        aside.become(now);
        aside.passWinters(n);
        if (aside.isThere(i)) {
            told = aside.strength[i];
        }
        return aside.brick[i];
    }

    public int lost(int i) {
        if (!now.knows(i)) {
            return BAD;
        }
        aside.become(now);
        for (int n = 0; n <= WINTERS_AHEAD; n++) {
            if (!aside.isThere(i)) {
                return n;
            }
            aside.passWinter();
        }
        return NONE;
    }

    public int order(int r) {
        if (!rows.knows(r)) {
            return BAD;
        }
        if (now.huts == 0) {
            return STATE;
        }
        aside.become(now);
        aside.passWinter();
        rows.write(r, aside.back, aside.backs);
        return aside.backs;
    }

    public int least(int i, int n) {
        if (!now.knows(i) || !within(n, 0, WINTERS_AHEAD)) {
            return BAD;
        }
        for (int more = 0; more <= MORE_STRENGTH; more++) {
            aside.become(now);
            aside.strength[i] += more;
            aside.passWinters(n);
            if (aside.isThere(i)) {
                return more;
            }
        }
        return NONE;
    }

    // ---- 4 a vee

    public int vee(int n, int r) {
        if (!within(n, 0, LEGS) || !rows.knows(r)) {
            return BAD;
        }
        if (now.howManyThere() == 0) {
            return STATE;
        }
        int least = vees.seek(now, n);
        rows.write(r, vees.best, n);
        return least + 100;
    }

    // ---- 5 bricks

    public int pairs(int r) {
        if (!rows.knows(r)) {
            return BAD;
        }
        if (now.howManyThere() == 0) {
            return STATE;
        }
        bricks.seek(now);
        rows.write(r, bricks.best, bricks.size);
        told = bricks.bestFar;
        return bricks.bestApart;
    }

    // ---- 6 what one is

    public int kinds(int i, int r) {
        int refused = refusedSigns(i, r);
        return refused != 0 ? refused : kindsBy(r);
    }

    public int test(int i, int r) {
        int refused = refusedSigns(i, r);
        if (refused != 0) {
            return refused;
        }
        int kinds = kindsBy(r);
        if (kinds == 0) {
            return NONE;
        }
        int bestWind = 0;
        int leastPart = Kind.KINDS + 1;
        for (int wind = 0; wind < WINDS; wind++) {
            int part = Kind.greatestPart(kinds, wind);
            if (part < leastPart) {
                leastPart = part;
                bestWind = wind;
            }
        }
        told = leastPart;
        return bestWind;
    }

    public int flown(int i, int n, int v) {
        if (!now.knows(i) || !within(n, 0, FLIGHTS) || !within(v, 0, MOST_FLOWN)) {
            return BAD;
        }
        int ways = flights.seek(now.kind[i], n, v);
        if (ways == 0) {
            return NONE;
        }
        told = flights.earliest;
        return ways;
    }

    // ---- 7 by turns

    public int duel(int n) {
        if (!within(n, 0, TURNS)) {
            return BAD;
        }
        if (now.howManyThere() == 0) {
            return STATE;
        }
        return now.leadByLuring(n) + 100;
    }

    // ---- 8 chances, lots

    public int odds(int v, int p) {
        if (!within(v, 0, HUTS) || !within(p, 0, DOZEN)) {
            return BAD;
        }
        if (now.huts == 0) {
            return STATE;
        }
        int back = thereBehindWinter();
        long ways = 0;
        for (int left = 0; left <= back; left++) {
            if (isPartOf(left, back) && Integer.bitCount(left) >= v) {
                ways += weight(left, back, p);
            }
        }
        tell(ways, weight(back, back, 0));
        return 1;
    }

    public int mid(int p) {
        if (!within(p, 0, DOZEN)) {
            return BAD;
        }
        if (now.huts == 0) {
            return STATE;
        }
        int back = thereBehindWinter();
        long sum = 0;
        for (int left = 0; left <= back; left++) {
            int strongest = aside.strongestOf(left);
            if (isPartOf(left, back) && strongest != NONE) {
                sum += weight(left, back, p) * aside.strength[strongest];
            }
        }
        tell(sum, weight(back, back, 0));
        return 1;
    }

    public int lots(int n, int seed) {
        if (!within(n, 1, MOST_LOTS) || !within(seed, 1, (int) LOT_MODULUS - 1)) {
            return BAD;
        }
        if (now.huts == 0) {
            return STATE;
        }
        if (log.lacks(n)) {
            return FULL;
        }
        long lot = seed;
        for (int d = 0; d < n; d++) {
            lot = LOT_FACTOR * lot % LOT_MODULUS;
            act(codeByLot(lot));
        }
        return now.howManyThere();
    }

    // ---- 9 what is told

    public int asked() {
        return told;
    }

    public long upper() {
        return above;
    }

    public long lower() {
        return below;
    }

    public int count(int what) {
        switch (what) {
            case 0:
                return now.huts;
            case 1:
                return now.due;
            case 2:
                return log.size;
            case 3:
                return now.food;
            case 4:
                return now.thereBits();
            case 5:
                return now.strengthThere();
            case 6:
                return now.atHomeBits();
            case 7:
                return now.howManyGuards();
            case 8:
                return rows.howMany();
            case 9:
                return texts.howMany();
            case 10:
                return howManyKept();
            default:
                return BAD;
        }
    }

    public int finding() {
        return latestFinding;
    }

    public int findings(int f) {
        return within(f, NOTHING, SIZE) ? found[f] : BAD;
    }

    public long digest() {
        long h = 17;
        for (int what = 0; what < WHATS_OF_COUNT; what++) {
            h = 31 * h + count(what);
        }
        for (int i = 0; i < now.huts; i++) {
            for (int what = 0; what < WHATS_OF_HUT; what++) {
                h = 31 * h + now.ofHut(i, what);
            }
        }
        for (int k = 0; k < kept.length; k++) {
            h = 31 * h + kept[k].size;
        }
        return texts.digestOnto(rows.digestOnto(h));
    }

    // ---- refusals (0: not refused)

    private static boolean within(int v, int low, int high) {
        return low <= v && v <= high;
    }

    private int find(int f) {
        latestFinding = f;
        found[f]++;
        return FINDING;
    }

    private int refusedMissing(Shelf shelf, int r) {
        if (!shelf.knows(r)) {
            return BAD;
        }
        return shelf.has(r) ? 0 : find(NOTHING);
    }

    private int refusedPlace(Shelf shelf, int r, int i) {
        int refused = refusedMissing(shelf, r);
        if (refused != 0) {
            return refused;
        }
        return shelf.holds(r, i) ? 0 : find(BEYOND);
    }

    private int refusedSigns(int i, int r) {
        if (!now.knows(i)) {
            return BAD;
        }
        int refused = refusedMissing(rows, r);
        if (refused != 0) {
            return refused;
        }
        if (rows.size(r) % 2 != 0) {
            return find(SIZE);
        }
        for (int s = 0; s < rows.size(r); s++) {
            if (!within(rows.get(r, s), 0, s % 2 == 0 ? WINDS - 1 : MOST_TIRED)) {
                return find(UNLIKE);
            }
        }
        return 0;
    }

    private int makeOn(Shelf shelf, int r, int n) {
        if (!shelf.knows(r) || n > shelf.most) {
            return BAD;
        }
        if (n < 0) {
            return find(SIZE);
        }
        shelf.make(r, n);
        return n;
    }

    // ---- deeds

    private void act(int code) {
        log.add(code);
        Log.doTo(now, code);
    }

    private void doAnew() {
        now.become(first);
        for (int d = 0; d < log.size; d++) {
            Log.doTo(now, log.codes[d]);
        }
    }

    private int codeByLot(long lot) {
        int chosen = now.huts == 0 ? NONE : (int) (lot / 8 % now.huts);
        if (lot % 3 == 0 && now.canBeFed(chosen)) {
            return Log.code(Log.FEED, chosen, 0);
        }
        return Log.code(Log.WINTER, 0, 0);
    }

    private int howManyKept() {
        int many = 0;
        for (int k = 0; k < kept.length; k++) {
            if (kept[k].size != Log.MISSING) {
                many++;
            }
        }
        return many;
    }

    // ---- kinds by signs

    private int kindsBy(int r) {
        int kinds = 0;
        for (int kind = 0; kind < Kind.KINDS; kind++) {
            if (fits(kind, r)) {
                kinds |= 1 << kind;
            }
        }
        return kinds;
    }

    private boolean fits(int kind, int r) {
        for (int s = 0; s + 1 < rows.size(r); s += 2) {
            if (Kind.tiredBy(kind, rows.get(r, s)) != rows.get(r, s + 1)) {
                return false;
            }
        }
        return true;
    }

    // ---- chances

    private int thereBehindWinter() {
        aside.become(now);
        aside.passWinter();
        return aside.thereBits();
    }

    private static boolean isPartOf(int part, int whole) {
        return (part & ~whole) == 0;
    }

    /** In how many of 12 ways for each hut storms leave just these. */
    private static long weight(int left, int all, int p) {
        long ways = 1;
        for (int i = 0; i < HUTS; i++) {
            if ((all >> i & 1) == 1) {
                ways *= (left >> i & 1) == 1 ? DOZEN - p : p;
            }
        }
        return ways;
    }

    private void tell(long up, long low) {
        long common = greatestDivisor(up, low);
        above = common == 0 ? 0 : up / common;
        below = common == 0 ? 1 : low / common;
    }

    private static long greatestDivisor(long a, long b) {
        // Euclid's way needs fewer than 100 steps for any two longs.
        for (int step = 0; step < 100 && b != 0; step++) {
            long rest = a % b;
            a = b;
            b = rest;
        }
        return a;
    }

    /** Rows of ints, each of some size or missing; bytes of texts are ints, too. */
    private static final class Shelf {
        private static final int MISSING = -1;
        final int most;
        final int[][] cells;
        final int[] sizes;

        Shelf(int many, int most) {
            this.most = most;
            cells = new int[many][most];
            sizes = new int[many];
            for (int r = 0; r < many; r++) {
                sizes[r] = MISSING;
            }
        }

        boolean knows(int r) {
            return 0 <= r && r < sizes.length;
        }

        boolean has(int r) {
            return knows(r) && sizes[r] != MISSING;
        }

        boolean holds(int r, int i) {
            return knows(r) && 0 <= i && i < sizes[r];
        }

        /** Whether there are n places from i on. */
        boolean holdsRun(int r, int i, int n) {
            return has(r) && 0 <= n && 0 <= i && n <= sizes[r] && i <= sizes[r] - n;
        }

        int size(int r) {
            return knows(r) ? sizes[r] : MISSING;
        }

        int get(int r, int i) {
            return holds(r, i) ? cells[r][i] : 0;
        }

        void set(int r, int i, int v) {
            if (holds(r, i)) {
                cells[r][i] = v;
            }
        }

        void make(int r, int n) {
            if (!knows(r) || n < 0 || n > most) {
                return;
            }
            sizes[r] = n;
            for (int i = 0; i < n; i++) {
                cells[r][i] = 0;
            }
        }

        void drop(int r) {
            if (knows(r)) {
                sizes[r] = MISSING;
            }
        }

        void write(int r, int[] from, int n) {
            make(r, n);
            for (int i = 0; i < n && i < from.length; i++) {
                set(r, i, from[i]);
            }
        }

        void move(int r, int i, int to, int j, int n) {
            if (holdsRun(r, i, n) && holdsRun(to, j, n)) {
                System.arraycopy(cells[r], i, cells[to], j, n);
            }
        }

        long sum(int r) {
            long sum = 0;
            for (int i = 0; i < size(r); i++) {
                sum += get(r, i);
            }
            return sum;
        }

        int howMany() {
            int many = 0;
            for (int r = 0; r < sizes.length; r++) {
                if (sizes[r] != MISSING) {
                    many++;
                }
            }
            return many;
        }

        long digestOnto(long h) {
            for (int r = 0; r < sizes.length; r++) {
                h = 31 * h + sizes[r];
                for (int i = 0; i < sizes[r]; i++) {
                    h = 31 * h + get(r, i);
                }
            }
            return h;
        }
    }

    /** What kinds of huts there are, and how they differ. */
    private static final class Kind {
        static final int HUT = 0, PINK = 1, LILAC = 2, GUARD = 3, CUCKOO = 4, CHICK = 5, KINDS = 6;
        private static final int STAYING_WIND = 5;
        private static final int[] LETTERS = {'h', 'p', 'l', 'g', 'c', 'k'};

        private Kind() {
        }

        static int byLetter(int letter) {
            for (int kind = 0; kind < LETTERS.length; kind++) {
                if (LETTERS[kind] == letter) {
                    return kind;
                }
            }
            return NONE;
        }

        static boolean isOf(int kind, int other) {
            return other == kind || other == HUT
                    || other == PINK && kind == CUCKOO
                    || other == GUARD && kind == CHICK;
        }

        static boolean stays(int kind, int wind) {
            return kind == LILAC && wind >= STAYING_WIND;
        }

        static int tiredBy(int kind, int wind) {
            return stays(kind, wind) ? 0 : tiredInFlight(kind, wind);
        }

        /** As if it went in any wind: a vee takes a lilac along. */
        static int tiredInFlight(int kind, int wind) {
            switch (kind) {
                case PINK:
                case CUCKOO:
                    return wind + 1;
                case GUARD:
                    return wind / 2;
                case CHICK:
                    return wind / 2 + 1;
                default:
                    return wind;
            }
        }

        static int lateBy(int kind) {
            switch (kind) {
                case PINK:
                    return 3;
                case GUARD:
                    return 0;
                case CUCKOO:
                case CHICK:
                    return 2;
                default:
                    return 1;
            }
        }

        static int wants(int kind, int home) {
            if (kind != CUCKOO) {
                return home;
            }
            return home >= BRICKS - 1 ? 0 : home + 1;
        }

        /** How many of these kinds are tired alike by a wind, at most. */
        static int greatestPart(int kinds, int wind) {
            int greatest = 0;
            for (int tired = 0; tired <= MOST_TIRED; tired++) {
                int part = 0;
                for (int kind = 0; kind < KINDS; kind++) {
                    if ((kinds >> kind & 1) == 1 && tiredBy(kind, wind) == tired) {
                        part++;
                    }
                }
                greatest = Math.max(greatest, part);
            }
            return greatest;
        }
    }

    /** The huts of a front, where they are, and how a winter passes over them. */
    private static final class Flock {
        int huts = 0;
        int food = 0;
        int due = 0;
        final int[] winds = new int[4];
        final int[] kind = new int[HUTS];
        final int[] home = new int[HUTS];
        final int[] strength = new int[HUTS];
        final int[] brown = new int[HUTS];
        final int[] brick = new int[HUTS];
        /** Those that came back from the latest winter, in their order. */
        final int[] back = new int[HUTS];
        int backs = 0;

        void clear() {
            huts = 0;
            food = 0;
            due = 0;
            backs = 0;
        }

        void become(Flock other) {
            huts = other.huts;
            food = other.food;
            due = other.due;
            backs = 0;
            for (int m = 0; m < winds.length; m++) {
                winds[m] = other.winds[m];
            }
            for (int i = 0; i < HUTS; i++) {
                kind[i] = other.kind[i];
                home[i] = other.home[i];
                strength[i] = other.strength[i];
                brown[i] = other.brown[i];
                brick[i] = other.brick[i];
            }
        }

        boolean knows(int i) {
            return 0 <= i && i < huts;
        }

        boolean isThere(int i) {
            return knows(i) && brick[i] != NONE;
        }

        boolean canBeFed(int i) {
            return isThere(i) && food > 0;
        }

        boolean hasHomeOn(int place) {
            for (int i = 0; i < huts; i++) {
                if (home[i] == place) {
                    return true;
                }
            }
            return false;
        }

        void settle(int itsKind, int itsHome, int itsStrength, int itsBrown) {
            if (huts >= HUTS) {
                return;
            }
            kind[huts] = itsKind;
            home[huts] = itsHome;
            strength[huts] = itsStrength;
            brown[huts] = itsBrown;
            brick[huts] = itsHome;
            huts++;
        }

        int windDue() {
            return winds[Math.floorMod(due, winds.length)];
        }

        int wanted(int i) {
            return Kind.wants(kind[i], home[i]);
        }

        int ofHut(int i, int what) {
            switch (what) {
                case 0:
                    return kind[i];
                case 1:
                    return home[i];
                case 2:
                    return strength[i];
                case 3:
                    return brown[i];
                case 4:
                    return brick[i];
                case 5:
                    return Kind.tiredBy(kind[i], windDue());
                default:
                    return Kind.lateBy(kind[i]);
            }
        }

        /** Who is where it wants to be (10: none). */
        int hostOf(int guest) {
            for (int i = 0; i < huts; i++) {
                if (brick[i] == wanted(guest)) {
                    return i;
                }
            }
            return 10;
        }

        int thereBits() {
            int bits = 0;
            for (int i = 0; i < huts; i++) {
                if (isThere(i)) {
                    bits |= 1 << i;
                }
            }
            return bits;
        }

        int howManyThere() {
            return Integer.bitCount(thereBits());
        }

        int atHomeBits() {
            int bits = 0;
            for (int i = 0; i < huts; i++) {
                if (brick[i] == home[i]) {
                    bits |= 1 << i;
                }
            }
            return bits;
        }

        int strengthThere() {
            int sum = 0;
            for (int i = 0; i < huts; i++) {
                if (isThere(i)) {
                    sum += strength[i];
                }
            }
            return sum;
        }

        int howManyGuards() {
            int many = 0;
            for (int i = 0; i < huts; i++) {
                if (Kind.isOf(kind[i], Kind.GUARD)) {
                    many++;
                }
            }
            return many;
        }

        int howManyLessLate(int than) {
            int many = 0;
            for (int i = 0; i < huts; i++) {
                if (Kind.lateBy(kind[i]) < Kind.lateBy(kind[than])) {
                    many++;
                }
            }
            return many;
        }

        int strongestOf(int bits) {
            int strongest = NONE;
            for (int i = 0; i < huts; i++) {
                if ((bits >> i & 1) == 1 && (strongest == NONE || strength[i] > strength[strongest])) {
                    strongest = i;
                }
            }
            return strongest;
        }

        /** Each lures the strongest one left: what one leaves, the other takes, so waiting gains nothing. */
        int leadByLuring(int turns) {
            int left = thereBits();
            int lead = 0;
            for (int turn = 0; turn < turns; turn++) {
                int lured = strongestOf(left);
                if (lured == NONE) {
                    break;
                }
                lead += turn % 2 == 0 ? strength[lured] : -strength[lured];
                left &= ~(1 << lured);
            }
            return lead;
        }

        void beFed(int i) {
            if (canBeFed(i)) {
                food--;
                strength[i] = Math.min(strength[i] + 2, MOST_STRENGTH);
            }
        }

        void changeHomes(int i, int j) {
            if (knows(i) && knows(j)) {
                int was = home[i];
                home[i] = home[j];
                home[j] = was;
            }
        }

        void lose(int i) {
            if (knows(i)) {
                brick[i] = NONE;
            }
        }

        void passWinters(int n) {
            for (int m = 0; m < n; m++) {
                passWinter();
            }
        }

        void passWinter() {
            int wind = windDue();
            backs = 0;
            for (int i = 0; i < huts; i++) {
                if (!isThere(i)) {
                    continue;
                }
                if (Kind.stays(kind[i], wind)) {
                    stay(i);
                } else {
                    go(i, wind);
                }
            }
            for (int b = 0; b < backs; b++) {
                land(back[b]);
            }
            due++;
        }

        private void stay(int i) {
            if (food > 0) {
                food--;
            } else {
                strength[i] = Math.max(strength[i] - 1, 0);
            }
        }

        /** Its brick is free until it lands: all that go are gone before the first one lands. */
        private void go(int i, int wind) {
            int tired = Kind.tiredBy(kind[i], wind);
            brick[i] = NONE;
            if (tired > strength[i]) {
                return;
            }
            strength[i] -= tired;
            int b = Math.min(backs, HUTS - 1);
            while (b > 0 && isAheadOf(i, back[b - 1])) {
                back[b] = back[b - 1];
                b--;
            }
            back[b] = i;
            backs++;
        }

        /** Huts queue by rising numbers, so of wholly like ones the earlier one is ahead already. */
        private boolean isAheadOf(int i, int j) {
            int late = Kind.lateBy(kind[i]);
            int otherLate = Kind.lateBy(kind[j]);
            return late != otherLate ? late < otherLate : strength[i] > strength[j];
        }

        private void land(int i) {
            brick[i] = nearestFree(wanted(i));
            brown[i] = Math.min(brown[i] + 1, MOST_BROWN);
        }

        private int nearestFree(int place) {
            int free = freeBits();
            for (int far = 0; far < BRICKS; far++) {
                if (place - far >= 0 && (free >> (place - far) & 1) == 1) {
                    return place - far;
                }
                if (place + far < BRICKS && (free >> (place + far) & 1) == 1) {
                    return place + far;
                }
            }
            return NONE;
        }

        private int freeBits() {
            int free = (1 << BRICKS) - 1;
            for (int i = 0; i < huts; i++) {
                if (brick[i] != NONE) {
                    free &= ~(1 << brick[i]);
                }
            }
            return free;
        }
    }

    /** Deeds in their order, from which a front can be made anew. */
    private static final class Log {
        static final int MISSING = -1;
        static final int WINTER = 0, FEED = 1, SELL = 2, STORM = 3;
        int size;
        final int[] codes = new int[DEEDS];

        Log(int size) {
            this.size = size;
        }

        void become(Log other) {
            size = other.size;
            for (int d = 0; d < size && d < codes.length; d++) {
                codes[d] = other.codes[d];
            }
        }

        /** Whether there is no room for so many deeds more. */
        boolean lacks(int more) {
            return size + more > codes.length;
        }

        void add(int code) {
            if (0 <= size && size < codes.length) {
                codes[size] = code;
                size++;
            }
        }

        static int code(int deed, int i, int j) {
            return deed * 100 + i * 10 + j;
        }

        static void doTo(Flock flock, int code) {
            int i = code / 10 % 10;
            switch (code / 100) {
                case WINTER:
                    flock.passWinter();
                    break;
                case FEED:
                    flock.beFed(i);
                    break;
                case SELL:
                    flock.changeHomes(i, code % 10);
                    break;
                default:
                    flock.lose(i);
                    break;
            }
        }
    }

    /** Reads a front from a text: where it can't go on, its place stays at the fault. */
    private static final class Reader {
        static final int BLANK = 32;
        private static final int FRONT_LETTER = 'f', NOUGHT_SIGN = '0';
        private final int[] signs = new int[TEXT_PLACES];
        private int size = 0;
        private int place = 0;

        /** Fills the flock; the fault's place, or NONE. What it has put there by a fault is of no use. */
        int read(Shelf from, int t, Flock flock) {
            place = 0;
            size = Math.min(from.size(t), TEXT_PLACES);
            for (int i = 0; i < size; i++) {
                signs[i] = from.get(t, i);
            }
            flock.clear();
            return readHead(flock) && readHuts(flock) ? NONE : place;
        }

        private boolean readHead(Flock flock) {
            skipBlanks();
            if (sign() != FRONT_LETTER) {
                return false;
            }
            place++;
            for (int m = 0; m < flock.winds.length; m++) {
                int wind = readFigure();
                if (wind == NONE) {
                    return false;
                }
                flock.winds[m] = wind;
            }
            return readFood(flock);
        }

        private boolean readFood(Flock flock) {
            int tens = readFigure();
            int ones = tens == NONE ? NONE : readFigure();
            if (ones == NONE) {
                return false;
            }
            flock.food = 10 * tens + ones;
            if (flock.food > MOST_FOOD) {
                place -= 2;
                return false;
            }
            return true;
        }

        private boolean readHuts(Flock flock) {
            skipBlanks();
            for (int i = 0; i < HUTS && place < size; i++) {
                if (!readHut(flock)) {
                    return false;
                }
                skipBlanks();
            }
            return place == size && flock.huts > 0;
        }

        private boolean readHut(Flock flock) {
            int kind = Kind.byLetter(sign());
            if (kind == NONE) {
                return false;
            }
            place++;
            int home = readFigure();
            if (home == NONE) {
                return false;
            }
            if (flock.hasHomeOn(home)) {
                place--;
                return false;
            }
            int strength = readFigure();
            int brown = strength == NONE ? NONE : readFigure();
            if (brown == NONE) {
                return false;
            }
            flock.settle(kind, home, strength, brown);
            return true;
        }

        private void skipBlanks() {
            while (place < size && signs[place] == BLANK) {
                place++;
            }
        }

        /** The sign at the place; behind the text there is none. */
        private int sign() {
            return place < size ? signs[place] : NONE;
        }

        private int readFigure() {
            int figure = sign() - NOUGHT_SIGN;
            if (figure < 0 || figure > 9) {
                return NONE;
            }
            place++;
            return figure;
        }
    }

    /** Who should be in front in which leg. */
    private static final class Vee {
        private final int[] who = new int[HUTS];
        private final int[] fronts = new int[LEGS];
        final int[] best = new int[LEGS];
        private int size = 0;
        private int legs = 0;

        /** Only rising rows are looked at: any other tires all as much as its rising one, which comes first. */
        int seek(Flock flock, int n) {
            begin(flock, n);
            int most = leastStrength(flock);
            boolean more = goOn();
            // There are 126 rising rows of four among six.
            for (int row = 0; row < 1000 && more; row++) {
                int least = leastStrength(flock);
                if (least > most) {
                    most = least;
                    takeAsBest();
                }
                more = goOn();
            }
            return most;
        }

        private void begin(Flock flock, int n) {
            legs = Math.min(n, LEGS);
            size = 0;
            for (int i = 0; i < flock.huts; i++) {
                if (flock.isThere(i)) {
                    who[size] = i;
                    size++;
                }
            }
            for (int leg = 0; leg < legs; leg++) {
                fronts[leg] = 0;
            }
            takeAsBest();
        }

        private void takeAsBest() {
            for (int leg = 0; leg < legs; leg++) {
                best[leg] = who[fronts[leg]];
            }
        }

        /** To the next rising row; whether there is one. */
        private boolean goOn() {
            for (int leg = legs - 1; leg >= 0; leg--) {
                if (fronts[leg] < size - 1) {
                    int front = fronts[leg] + 1;
                    for (int later = leg; later < legs; later++) {
                        fronts[later] = front;
                    }
                    return true;
                }
            }
            return false;
        }

        private int leastStrength(Flock flock) {
            int least = 0;
            for (int w = 0; w < size; w++) {
                int tired = Kind.tiredInFlight(flock.kind[who[w]], flock.windDue());
                int left = flock.strength[who[w]];
                for (int leg = 0; leg < legs; leg++) {
                    left -= fronts[leg] == w ? tired : tired / 2;
                }
                least = w == 0 ? left : Math.min(least, left);
            }
            return least;
        }
    }

    /** How bricks should be given anew. */
    private static final class Bricks {
        private final int[] who = new int[HUTS];
        private final int[] given = new int[HUTS];
        final int[] best = new int[HUTS];
        int size = 0;
        int bestApart = 0;
        int bestFar = 0;

        void seek(Flock flock) {
            begin(flock);
            boolean more = true;
            // Six bricks can be given in 720 ways.
            for (int way = 0; way < 1000 && more; way++) {
                int apart = apart();
                int far = far(flock);
                if (way == 0 || apart < bestApart || apart == bestApart && far < bestFar) {
                    bestApart = apart;
                    bestFar = far;
                    takeAsBest();
                }
                more = goOn();
            }
        }

        private void begin(Flock flock) {
            size = 0;
            for (int i = 0; i < flock.huts; i++) {
                if (flock.isThere(i)) {
                    who[size] = i;
                    insert(flock.brick[i]);
                    size++;
                }
            }
        }

        private void insert(int brick) {
            int g = size;
            while (g > 0 && given[g - 1] > brick) {
                given[g] = given[g - 1];
                g--;
            }
            given[g] = brick;
        }

        private void takeAsBest() {
            for (int w = 0; w < size; w++) {
                best[w] = given[w];
            }
        }

        private int apart() {
            int sum = 0;
            for (int w = 0; w + 1 < size; w++) {
                if (who[w] % 2 == 0 && who[w + 1] == who[w] + 1) {
                    sum += Math.abs(given[w] - given[w + 1]);
                }
            }
            return sum;
        }

        private int far(Flock flock) {
            int sum = 0;
            for (int w = 0; w < size; w++) {
                sum += Math.abs(given[w] - flock.home[who[w]]);
            }
            return sum;
        }

        /** To the next way, by rising bricks; whether there is one. */
        private boolean goOn() {
            int turn = size - 2;
            while (turn >= 0 && given[turn] > given[turn + 1]) {
                turn--;
            }
            if (turn < 0) {
                return false;
            }
            int last = size - 1;
            while (last > turn && given[last] < given[turn]) {
                last--;
            }
            swap(turn, last);
            for (int low = turn + 1, high = size - 1; low < high; low++, high--) {
                swap(low, high);
            }
            return true;
        }

        private void swap(int a, int b) {
            int was = given[a];
            given[a] = given[b];
            given[b] = was;
        }
    }

    /** In which winds one may have flown. */
    private static final class Flights {
        /** ways[k][v]: how many rows of k winds tire by v together. */
        private final int[][] ways = new int[FLIGHTS + 1][MOST_FLOWN + 1];
        /** The first row that the latest seek() has counted, as a number. */
        int earliest = 0;

        int seek(int kind, int n, int v) {
            for (int k = 0; k <= n && k <= FLIGHTS; k++) {
                for (int sum = 0; sum <= MOST_FLOWN; sum++) {
                    ways[k][sum] = k == 0 ? (sum == 0 ? 1 : 0) : waysByLast(kind, k, sum);
                }
            }
            int many = waysOf(n, v);
            if (many > 0) {
                earliest = firstRow(kind, n, v);
            }
            return many;
        }

        private int waysOf(int k, int sum) {
            return 0 <= k && k <= FLIGHTS && 0 <= sum && sum <= MOST_FLOWN ? ways[k][sum] : 0;
        }

        private int waysByLast(int kind, int k, int sum) {
            int many = 0;
            for (int wind = 0; wind < WINDS; wind++) {
                many += waysOf(k - 1, sum - Kind.tiredBy(kind, wind));
            }
            return many;
        }

        private int firstRow(int kind, int n, int v) {
            int row = 0;
            int rest = v;
            for (int k = n; k > 0; k--) {
                int wind = firstWind(kind, k, rest);
                row = 10 * row + wind;
                rest -= Kind.tiredBy(kind, wind);
            }
            return row;
        }

        private int firstWind(int kind, int k, int rest) {
            for (int wind = 0; wind < WINDS; wind++) {
                if (waysOf(k - 1, rest - Kind.tiredBy(kind, wind)) > 0) {
                    return wind;
                }
            }
            return 0;
        }
    }
}
