/** A widow's house of clocks, no two of which may strike together. */
public final class NeverTogether {
    public static final int BAD = -1, FULL = -2, FINDING = -3, STATE = -4, SPENT = -6, NONE = -9;

    private static final int NOTHING = 1, BEYOND = 2, UNLIKE = 3, NOUGHT = 4, SIZE = 5;

    private static final int ROWS = 6, ROW_SIZE = 40, TEXTS = 4, TEXT_SIZE = 60, BLANK = 32;
    private static final int MOST_PIECES = 6, MOST_HEATS = 7, MOST_DEEDS = 40, PLACES = 3;
    private static final int FARTHEST = 420, MINUTES = 60;
    private static final long RING = (1L << MINUTES) - 1;

    private static final int STOPPED = 3, KINDS = 6, RATES = 10, RATE_SHIFT = 4;
    private static final int CUCKOO = 1, BRASS = 2, CHIME = 4;
    private static final int[] LETTERS = {99, 107, 98, 115, 109, 114};
    private static final int[] STRIKES = {1, 2, 1, 1, 3, 1};
    private static final int[] HEAT_SIGN = {0, 0, 1, 0, 0, -1};
    /** Of each KIND, by bits, the KINDS that it is. */
    private static final int[] IS = {0b000001, 0b000011, 0b000101, 0b001001, 0b010011, 0b100101};

    private final Shelf rows;
    private final Shelf texts;
    private final Reader reader;
    private final House home;
    private final Moment moment;
    private final Keeper keeper;
    private final Game game;
    private final Draughts draughts;
    private final int[] timesFound;
    private int latestFound;
    private int told;

    public NeverTogether() {
        rows = new Shelf(new int[ROWS][ROW_SIZE]);
        texts = new Shelf(new int[TEXTS][TEXT_SIZE]);
        reader = new Reader();
        home = new House();
        moment = new Moment();
        keeper = new Keeper();
        game = new Game();
        draughts = new Draughts();
        timesFound = new int[SIZE + 1];
        latestFound = 0;
        told = 0;
    }

    // ---- 1 rows, texts, houses

    public int row(int r, int n) {
        if (!rows.isNumber(r) || n > ROW_SIZE) {
            return BAD;
        }
        if (n < 0) {
            return found(SIZE);
        }
        rows.renew(r, n, 0);
        return n;
    }

    public int lay(int r, int i, int v) {
        int refusal = refusalOfPlace(rows, r, i);
        if (refusal != 0) {
            return refusal;
        }
        told = rows.replace(r, i, v);
        return 1;
    }

    public int at(int r, int i) {
        int refusal = refusalOfPlace(rows, r, i);
        if (refusal != 0) {
            return refusal;
        }
        told = rows.placeOf(r, i);
        return 1;
    }

    public int tear(int r) {
        int refusal = refusalOfShelf(rows, r);
        if (refusal != 0) {
            return refusal;
        }
        rows.remove(r);
        return 1;
    }

    public int copy(int r, int i, int to, int j, int n) {
        if (!rows.isNumber(r) || !rows.isNumber(to)) {
            return BAD;
        }
        if (n < 0) {
            return found(SIZE);
        }
        if (!rows.isThere(r) || !rows.isThere(to)) {
            return found(NOTHING);
        }
        if (!rows.holds(r, i, n) || !rows.holds(to, j, n)) {
            return found(BEYOND);
        }
        rows.carry(r, i, to, j, n);
        return 1;
    }

    public int mean(int r) {
        int refusal = refusalOfShelf(rows, r);
        if (refusal != 0) {
            return refusal;
        }
        int size = rows.sizeOf(r);
        if (size <= 0) {
            return found(NOUGHT);
        }
        told = (int) (rows.sumOf(r) / size);
        return 1;
    }

    public int text(int t, int n) {
        if (!texts.isNumber(t) || n > TEXT_SIZE) {
            return BAD;
        }
        if (n < 0) {
            return found(SIZE);
        }
        texts.renew(t, n, BLANK);
        return n;
    }

    public int put(int t, int i, int v) {
        int refusal = refusalOfPlace(texts, t, i);
        if (refusal != 0) {
            return refusal;
        }
        return texts.replace(t, i, (byte) v) + 1000;
    }

    public int fault(int t) {
        int refusal = refusalOfShelf(texts, t);
        if (refusal != 0) {
            return refusal;
        }
        return reader.read(texts, t);
    }

    public int house(int t) {
        int refusal = refusalOfShelf(texts, t);
        if (refusal != 0) {
            return refusal;
        }
        if (reader.read(texts, t) != NONE) {
            return STATE;
        }
        home.furnish(reader);
        return home.pieces;
    }

    public int piece(int i, int what) {
        if (!home.isPiece(i) || what < 0 || what > 5) {
            return BAD;
        }
        told = home.partOf(i, what);
        return 1;
    }

    public int mark(int i, int kind) {
        if (!home.isPiece(i) || kind < 1 || kind >= KINDS) {
            return BAD;
        }
        if (!home.isOf(i, kind)) {
            return found(UNLIKE);
        }
        switch (kind) {
            case CUCKOO:
                return home.lastStrike(i);
            case BRASS:
                return home.gainToday(i);
            case STOPPED:
                return home.visitorsOf(i);
            case CHIME:
                moment.see(home, 0, 0);
                return moment.companyOf(i);
            default:
                return home.idleDays(i);
        }
    }

    public int heat(int day) {
        if (day < 0 || day > 999) {
            return BAD;
        }
        if (home.pieces == 0) {
            return STATE;
        }
        return home.heatOf(day);
    }

    // ---- 2 deeds

    public int day() {
        if (home.pieces == 0) {
            return STATE;
        }
        if (!home.hasPlaceForDeeds(1)) {
            return FULL;
        }
        home.passDay();
        return pairsNow();
    }

    public int touch(int i, int by) {
        if (!home.isPiece(i) || by == 0 || by < -5 || by > 5) {
            return BAD;
        }
        if (home.wasTouched(i)) {
            return STATE;
        }
        if (!home.hasPlaceForDeeds(1)) {
            return FULL;
        }
        home.turn(i, by);
        return home.minuteAfter(i, 0, 0);
    }

    public int undo(int n) {
        if (n < 0 || n > home.deeds) {
            return BAD;
        }
        int undone = home.deeds - n;
        home.goBackTo(n);
        return undone;
    }

    public int keep(int k) {
        if (k < 0 || k >= PLACES) {
            return BAD;
        }
        if (home.pieces == 0) {
            return STATE;
        }
        home.keepIn(k);
        return home.deeds;
    }

    public int on(int k) {
        if (k < 0 || k >= PLACES) {
            return BAD;
        }
        if (home.keptDeeds(k) < 0) {
            return found(NOTHING);
        }
        home.goOnFrom(k);
        return home.deeds;
    }

    // ---- 3 when who meets whom

    public int minute(int i, int n) {
        if (!home.isPiece(i) || !isFuture(n)) {
            return BAD;
        }
        return home.minuteAfter(i, n, home.warmthOver(n));
    }

    public int meet(int i, int j) {
        if (!home.isPair(i, j)) {
            return BAD;
        }
        int warmth = 0;
        for (int d = 0; d <= FARTHEST; d++) {
            if (home.willMeet(i, j, d, warmth)) {
                return d;
            }
            warmth += home.heatAfter(d);
        }
        return NONE;
    }

    public int meets(int n) {
        if (!isFuture(n)) {
            return BAD;
        }
        moment.see(home, n, home.warmthOver(n));
        told = moment.whoMeets();
        return moment.pairs();
    }

    public int soon() {
        int warmth = 0;
        for (int d = 0; d <= FARTHEST; d++) {
            moment.see(home, d, warmth);
            if (moment.anyMeet()) {
                told = moment.leastPair();
                return d;
            }
            warmth += home.heatAfter(d);
        }
        return NONE;
    }

    public int often(int i, int j, int n) {
        if (!home.isPair(i, j) || !isFuture(n)) {
            return BAD;
        }
        int warmth = 0;
        int times = 0;
        for (int d = 0; d <= n; d++) {
            if (home.willMeet(i, j, d, warmth)) {
                times++;
            }
            warmth += home.heatAfter(d);
        }
        return times;
    }

    public int sounds(int n) {
        if (!isFuture(n)) {
            return BAD;
        }
        moment.see(home, n, home.warmthOver(n));
        return Long.bitCount(moment.sounding());
    }

    public int room(int n, int w) {
        if (!isFuture(n) || w < 1 || w > 9) {
            return BAD;
        }
        moment.see(home, n, home.warmthOver(n));
        long silent = RING & ~moment.sounding();
        int earliest = NONE;
        int many = 0;
        for (int m = MINUTES - 1; m >= 0; m--) {
            if ((run(m, w) & ~silent) == 0) {
                earliest = m;
                many++;
            }
        }
        told = many;
        return earliest;
    }

    public int right(int i, int minute, int n) {
        if (!home.isPiece(i) || !isMinute(minute) || !isFuture(n)) {
            return BAD;
        }
        int warmth = 0;
        int times = 0;
        for (int d = 0; d <= n; d++) {
            if (home.minuteAfter(i, d, warmth) == minute) {
                times++;
            }
            warmth += home.heatAfter(d);
        }
        return times;
    }

    // ---- 4 keeping them apart (aside)

    public int apart(int n, int r) {
        if (n < 0 || n > 7 || !rows.isNumber(r)) {
            return BAD;
        }
        if (home.pieces == 0) {
            return STATE;
        }
        keeper.look(home, n);
        if (!keeper.findTouches(false)) {
            return NONE;
        }
        rows.renew(r, home.pieces, 0);
        for (int i = 0; i < home.pieces; i++) {
            rows.replace(r, i, keeper.bestTouch(i));
        }
        return keeper.bestTouched();
    }

    public int stairs(int n) {
        if (n < 0 || n > 7) {
            return BAD;
        }
        if (home.pieces == 0) {
            return STATE;
        }
        keeper.look(home, n);
        if (!keeper.findTouches(true)) {
            return NONE;
        }
        told = keeper.bestSet();
        return keeper.bestStairs();
    }

    public int doomed(int n) {
        if (n < 0 || n > 60) {
            return BAD;
        }
        keeper.look(home, n);
        told = keeper.leastDoomed();
        return keeper.doomedPairs();
    }

    public int out(int n) {
        if (n < 0 || n > 60) {
            return BAD;
        }
        keeper.look(home, n);
        told = keeper.fewestOut();
        return Integer.bitCount(told);
    }

    // ---- 5 what is late, what was heard

    public int late(int r) {
        if (!rows.isNumber(r)) {
            return BAD;
        }
        if (home.pieces == 0) {
            return STATE;
        }
        if (!rows.isThere(r)) {
            return found(NOTHING);
        }
        if (rows.sizeOf(r) != home.pieces) {
            return found(SIZE);
        }
        for (int i = 0; i < home.pieces; i++) {
            if (!isMinute(rows.placeOf(r, i))) {
                return found(UNLIKE);
            }
        }
        return lateOnes(r);
    }

    public int rates(int i, int r) {
        int refusal = refusalOfHeard(i, r);
        if (refusal != 0) {
            return refusal;
        }
        int set = 0;
        for (int k = 0; k < RATES; k++) {
            if (agrees(r, home.minuteAfter(i, 0, 0), home.kindOf(i), k - RATE_SHIFT)) {
                set |= 1 << k;
            }
        }
        return set;
    }

    public int kinds(int i, int r) {
        int refusal = refusalOfHeard(i, r);
        if (refusal != 0) {
            return refusal;
        }
        int set = 0;
        for (int k = 0; k < KINDS; k++) {
            if (agrees(r, home.minuteAfter(i, 0, 0), k, home.rateOf(i))) {
                set |= 1 << k;
            }
        }
        return set;
    }

    public int from(int i, int r) {
        int refusal = refusalOfHeard(i, r);
        if (refusal != 0) {
            return refusal;
        }
        int earliest = NONE;
        int many = 0;
        for (int m = MINUTES - 1; m >= 0; m--) {
            if (agrees(r, m, home.kindOf(i), home.rateOf(i))) {
                earliest = m;
                many++;
            }
        }
        told = earliest;
        return many;
    }

    // ---- 6 a cat

    public int cat(int n) {
        if (n < 0 || n > 2) {
            return BAD;
        }
        if (home.pieces == 0) {
            return STATE;
        }
        return game.isKeptApart(home, n) ? 1 : 0;
    }

    public int first(int n) {
        if (n < 1 || n > 2) {
            return BAD;
        }
        if (home.pieces == 0) {
            return STATE;
        }
        return game.keepingMove(home, n);
    }

    // ---- 7 draughts, lots

    public int odds(int i, int j, int n, int p) {
        if (!home.isPair(i, j) || n < 0 || n > 6 || !isDraught(p)) {
            return BAD;
        }
        draughts.tellMeeting(home, i, j, n, p);
        return 1;
    }

    public int mid(int i, int n, int p) {
        if (!home.isPiece(i) || n < 0 || n > 60 || !isDraught(p)) {
            return BAD;
        }
        draughts.tell(home.kindOf(i) == STOPPED ? 0 : (long) n * p, 12);
        return 1;
    }

    public int lots(int n, int seed) {
        if (n < 1 || n > 20 || seed < 1 || seed > 2147483646) {
            return BAD;
        }
        if (home.pieces == 0) {
            return STATE;
        }
        if (!home.hasPlaceForDeeds(2 * n)) {
            return FULL;
        }
        long lot = seed;
        for (int d = 0; d < n; d++) {
            lot = lot * 48271 % 2147483647;
            home.turnByLot(lot);
            home.passDay();
        }
        return pairsNow();
    }

    // ---- 8 what is told

    public int asked() {
        return told;
    }

    public long upper() {
        return draughts.upperNumber;
    }

    public long lower() {
        return draughts.lowerNumber;
    }

    public int count(int what) {
        if (what < 0 || what > 8) {
            return BAD;
        }
        return tally(what);
    }

    public int finding() {
        return latestFound;
    }

    public int findings(int f) {
        if (f < NOTHING || f > SIZE) {
            return BAD;
        }
        return timesFound[f];
    }

    public long digest() {
        long h = 17;
        for (int what = 0; what <= 8; what++) {
            h = 31 * h + tally(what);
        }
        for (int i = 0; i < home.pieces; i++) {
            for (int what = 0; what <= 5; what++) {
                h = 31 * h + home.partOf(i, what);
            }
        }
        for (int k = 0; k < PLACES; k++) {
            h = 31 * h + home.keptDeeds(k);
        }
        return texts.mixInto(rows.mixInto(h));
    }

    // ---- what the calls share

    private int found(int f) {
        if (f >= NOTHING && f <= SIZE) {
            timesFound[f]++;
            latestFound = f;
        }
        return FINDING;
    }

    private int refusalOfShelf(Shelf shelf, int r) {
        if (!shelf.isNumber(r)) {
            return BAD;
        }
        return shelf.isThere(r) ? 0 : found(NOTHING);
    }

    private int refusalOfPlace(Shelf shelf, int r, int i) {
        int refusal = refusalOfShelf(shelf, r);
        if (refusal != 0) {
            return refusal;
        }
        return shelf.isPlace(r, i) ? 0 : found(BEYOND);
    }

    private int refusalOfHeard(int i, int r) {
        if (!home.isPiece(i)) {
            return BAD;
        }
        int refusal = refusalOfShelf(rows, r);
        if (refusal != 0) {
            return refusal;
        }
        int size = rows.sizeOf(r);
        if (size % 2 != 0) {
            return found(SIZE);
        }
        for (int k = 0; k + 1 < size; k += 2) {
            int days = rows.placeOf(r, k);
            if (days < 0 || days > 60 || !isMinute(rows.placeOf(r, k + 1))) {
                return found(UNLIKE);
            }
        }
        return 0;
    }

    /** Whether a TIMEPIECE of such a KIND and RATE, now at a MINUTE, is heard as a ROW of pairs says. */
    private boolean agrees(int r, int minute, int kind, int rate) {
        int size = rows.sizeOf(r);
        for (int k = 0; k + 1 < size; k += 2) {
            int days = rows.placeOf(r, k);
            int gain = gainOver(kind, rate, days, home.warmthOver(days));
            if (ring(minute + gain) != rows.placeOf(r, k + 1)) {
                return false;
            }
        }
        return true;
    }

    private int lateOnes(int r) {
        int set = 0;
        int onceEach = 1;
        for (int i = 0; i < home.pieces; i++) {
            int off = ring(rows.placeOf(r, i) - home.minuteAfter(i, 0, 0));
            if (off != 0) {
                set |= 1 << i;
            }
            if (off > 5 && off < MINUTES - 5) {
                onceEach = 0;
            }
        }
        told = onceEach;
        return set;
    }

    private int pairsNow() {
        moment.see(home, 0, 0);
        return moment.pairs();
    }

    private int tally(int what) {
        switch (what) {
            case 0:
                return home.pieces;
            case 1:
                return home.today;
            case 2:
                return home.deeds;
            case 3:
                return pairsNow();
            case 4:
                return home.howManyAre(CUCKOO);
            case 5:
                return home.howManyAre(BRASS);
            case 6:
                return rows.howManyThere();
            case 7:
                return texts.howManyThere();
            default:
                return home.howManyKept();
        }
    }

    private static boolean isFuture(int n) {
        return n >= 0 && n <= FARTHEST;
    }

    private static boolean isMinute(int m) {
        return m >= 0 && m < MINUTES;
    }

    private static boolean isDraught(int p) {
        return p >= 0 && p <= 12;
    }

    private static boolean isKind(int kind) {
        return kind >= 0 && kind < KINDS;
    }

    private static int ring(int m) {
        int rest = m % MINUTES;
        return rest < 0 ? rest + MINUTES : rest;
    }

    /** Some MINUTES (fewer than all) from one on, by bits. */
    private static long run(int from, int many) {
        return turned((1L << many) - 1, from);
    }

    /** MINUTES, by bits, each so many (0 .. 59) further on. */
    private static long turned(long minutes, int by) {
        return (minutes << by | minutes >>> MINUTES - by) & RING;
    }

    /** What one gains in so many DAYS whose HEATS together are the warmth. */
    private static int gainOver(int kind, int rate, int days, int warmth) {
        if (kind == STOPPED || kind < 0 || kind >= KINDS) {
            return 0;
        }
        return days * rate + HEAT_SIGN[kind] * warmth;
    }

    /** Numbered rows of ints of bounded sizes, there or missing; made once and used again. */
    private static final class Shelf {
        private static final int MISSING = -1;
        private final int[][] places;
        private final int[] sizes;

        Shelf(int[][] places) {
            this.places = places;
            this.sizes = new int[places.length];
            for (int r = 0; r < sizes.length; r++) {
                sizes[r] = MISSING;
            }
        }

        boolean isNumber(int r) {
            return r >= 0 && r < sizes.length;
        }

        boolean isThere(int r) {
            return isNumber(r) && sizes[r] != MISSING;
        }

        /** A missing one's size is below 0, so it has no places. */
        boolean isPlace(int r, int i) {
            return r >= 0 && r < sizes.length && i >= 0 && i < sizes[r];
        }

        /** Sizes are taken off, as i + n could wrap around. */
        boolean holds(int r, int i, int n) {
            return isThere(r) && i >= 0 && n >= 0 && n <= sizes[r] && i <= sizes[r] - n;
        }

        int sizeOf(int r) {
            return isNumber(r) ? sizes[r] : MISSING;
        }

        int placeOf(int r, int i) {
            return isPlace(r, i) ? places[r][i] : 0;
        }

        int replace(int r, int i, int v) {
            if (!isPlace(r, i)) {
                return 0;
            }
            int was = places[r][i];
            places[r][i] = v;
            return was;
        }

        void renew(int r, int n, int v) {
            if (!isNumber(r) || n < 0 || n > places[r].length) {
                return;
            }
            sizes[r] = n;
            for (int i = 0; i < n; i++) {
                places[r][i] = v;
            }
        }

        void remove(int r) {
            if (isNumber(r)) {
                sizes[r] = MISSING;
            }
        }

        void carry(int r, int i, int to, int j, int n) {
            if (holds(r, i, n) && holds(to, j, n)) {
                System.arraycopy(places[r], i, places[to], j, n);
            }
        }

        long sumOf(int r) {
            long sum = 0;
            int size = sizeOf(r);
            for (int i = 0; i < size; i++) {
                sum += placeOf(r, i);
            }
            return sum;
        }

        int howManyThere() {
            int many = 0;
            for (int r = 0; r < sizes.length; r++) {
                if (isThere(r)) {
                    many++;
                }
            }
            return many;
        }

        long mixInto(long digest) {
            long h = digest;
            for (int r = 0; r < sizes.length; r++) {
                h = 31 * h + sizes[r];
                for (int i = 0; i < sizes[r]; i++) {
                    h = 31 * h + placeOf(r, i);
                }
            }
            return h;
        }
    }

    /** Reads a TEXT as a HOUSE and holds what it read until the next reading. */
    private static final class Reader {
        private final int[] heats = new int[MOST_HEATS];
        private final int[] kinds = new int[MOST_PIECES];
        private final int[] minutes = new int[MOST_PIECES];
        private final int[] rates = new int[MOST_PIECES];
        private final int[] floors = new int[MOST_PIECES];
        private int heatCount;
        private int pieces;
        private int place;

        /** The FAULT, or NONE. */
        int read(Shelf texts, int t) {
            int size = texts.sizeOf(t);
            place = 0;
            heatCount = 0;
            pieces = 0;
            skipBlanks(texts, t);
            if (!takeHeats(texts, t)) {
                return place;
            }
            skipBlanks(texts, t);
            for (int k = 0; k < MOST_PIECES && place < size; k++) {
                if (!takePiece(texts, t, k)) {
                    return place;
                }
                skipBlanks(texts, t);
            }
            return place < size || pieces == 0 ? place : NONE;
        }

        private void skipBlanks(Shelf texts, int t) {
            int size = texts.sizeOf(t);
            while (place < size && texts.placeOf(t, place) == BLANK) {
                place++;
            }
        }

        private boolean takeHeats(Shelf texts, int t) {
            if (!texts.isPlace(t, place) || texts.placeOf(t, place) != 'z') {
                return false;
            }
            place++;
            for (int k = 0; k < MOST_HEATS; k++) {
                int heat = takeFigure(texts, t, 3);
                if (heat < 0) {
                    break;
                }
                heats[k] = heat;
                heatCount = k + 1;
            }
            return heatCount > 0;
        }

        private boolean takePiece(Shelf texts, int t, int k) {
            int kind = kindOf(texts.placeOf(t, place));
            if (kind < 0) {
                return false;
            }
            place++;
            int tens = takeFigure(texts, t, 5);
            int ones = tens < 0 ? -1 : takeFigure(texts, t, 9);
            int rate = ones < 0 ? -1 : takeFigure(texts, t, 9);
            int floor = rate < 0 ? -1 : takeFigure(texts, t, 3);
            if (floor < 0) {
                return false;
            }
            kinds[k] = kind;
            minutes[k] = 10 * tens + ones;
            rates[k] = rate - RATE_SHIFT;
            floors[k] = floor;
            pieces = k + 1;
            return true;
        }

        /** A figure up to the most, or -1, the place then staying at what is none such. */
        private int takeFigure(Shelf texts, int t, int most) {
            if (!texts.isPlace(t, place)) {
                return -1;
            }
            int figure = texts.placeOf(t, place) - '0';
            if (figure < 0 || figure > most) {
                return -1;
            }
            place++;
            return figure;
        }

        private static int kindOf(int letter) {
            for (int kind = 0; kind < KINDS; kind++) {
                if (LETTERS[kind] == letter) {
                    return kind;
                }
            }
            return -1;
        }
    }

    /** The TIMEPIECES as they were set and as they are now, what was done, and what is kept of it. */
    private static final class House {
        /** A DEED is this, or a TOUCH: 16 times the TIMEPIECE, and by how much and 6 together. */
        private static final int DAY_PASSED = 0;
        private final int[] heats = new int[MOST_HEATS];
        private final int[] kinds = new int[MOST_PIECES];
        private final int[] starts = new int[MOST_PIECES];
        private final int[] rates = new int[MOST_PIECES];
        private final int[] floors = new int[MOST_PIECES];
        private final int[] minutes = new int[MOST_PIECES];
        private final int[] done = new int[MOST_DEEDS];
        private final int[][] kept = new int[PLACES][MOST_DEEDS];
        private final int[] keptSizes = new int[PLACES];
        private int heatCount;
        private int pieces;
        private int today;
        private int touchedToday;
        private int deeds;

        House() {
            for (int k = 0; k < PLACES; k++) {
                keptSizes[k] = -1;
            }
        }

        void furnish(Reader reader) {
            heatCount = reader.heatCount;
            pieces = reader.pieces;
            for (int k = 0; k < MOST_HEATS; k++) {
                heats[k] = reader.heats[k];
            }
            for (int i = 0; i < MOST_PIECES; i++) {
                kinds[i] = reader.kinds[i];
                starts[i] = reader.minutes[i];
                rates[i] = reader.rates[i];
                floors[i] = reader.floors[i];
            }
            for (int k = 0; k < PLACES; k++) {
                keptSizes[k] = -1;
            }
            goBackTo(0);
        }

        boolean isPiece(int i) {
            return i >= 0 && i < pieces && i < MOST_PIECES;
        }

        boolean isPair(int i, int j) {
            return isPiece(i) && isPiece(j) && i != j;
        }

        boolean isOf(int i, int kind) {
            return isPiece(i) && isKind(kinds[i]) && isKind(kind) && (IS[kinds[i]] >> kind & 1) == 1;
        }

        int kindOf(int i) {
            return isPiece(i) ? kinds[i] : 0;
        }

        int rateOf(int i) {
            return isPiece(i) ? rates[i] : 0;
        }

        int floorOf(int i) {
            return isPiece(i) ? floors[i] : 0;
        }

        int strikesOf(int i) {
            return isPiece(i) && isKind(kinds[i]) ? STRIKES[kinds[i]] : 0;
        }

        boolean wasTouched(int i) {
            return isPiece(i) && (touchedToday >> i & 1) == 1;
        }

        int partOf(int i, int what) {
            switch (what) {
                case 0:
                    return kindOf(i);
                case 1:
                    return minuteAfter(i, 0, 0);
                case 2:
                    return rateOf(i);
                case 3:
                    return floorOf(i);
                case 4:
                    return strikesOf(i);
                default:
                    return wasTouched(i) ? 1 : 0;
            }
        }

        int howManyAre(int kind) {
            int many = 0;
            for (int i = 0; i < pieces; i++) {
                if (isOf(i, kind)) {
                    many++;
                }
            }
            return many;
        }

        int heatOf(int day) {
            if (day < 0 || heatCount <= 0 || heatCount > MOST_HEATS) {
                return 0;
            }
            return heats[day % heatCount];
        }

        int heatAfter(int days) {
            return heatOf(today + days);
        }

        int warmthOver(int days) {
            if (heatCount <= 0) {
                return 0;
            }
            int round = 0;
            int rest = 0;
            for (int d = 0; d < heatCount; d++) {
                round += heatAfter(d);
                if (d < days % heatCount) {
                    rest += heatAfter(d);
                }
            }
            return days / heatCount * round + rest;
        }

        int minuteAfter(int i, int days, int warmth) {
            if (!isPiece(i)) {
                return 0;
            }
            return ring(minutes[i] + gainOver(kinds[i], rates[i], days, warmth));
        }

        long strikingAfter(int i, int days, int warmth) {
            return run(minuteAfter(i, days, warmth), strikesOf(i));
        }

        boolean willMeet(int i, int j, int days, int warmth) {
            return (strikingAfter(i, days, warmth) & strikingAfter(j, days, warmth)) != 0;
        }

        int lastStrike(int i) {
            return ring(minuteAfter(i, 0, 0) + strikesOf(i) - 1);
        }

        int gainToday(int i) {
            return gainOver(kindOf(i), rateOf(i), 1, heatAfter(0));
        }

        int idleDays(int i) {
            int many = 0;
            for (int d = 0; d < 7; d++) {
                if (gainOver(kindOf(i), rateOf(i), 1, heatAfter(d)) == 0) {
                    many++;
                }
            }
            return many;
        }

        /** How many others come by where a STOPPED one stands. */
        int visitorsOf(int i) {
            int visitors = 0;
            int warmth = 0;
            for (int d = 0; d < 60; d++) {
                for (int j = 0; j < pieces; j++) {
                    if (j != i && minuteAfter(j, d, warmth) == minuteAfter(i, 0, 0)) {
                        visitors |= 1 << j;
                    }
                }
                warmth += heatAfter(d);
            }
            return Integer.bitCount(visitors);
        }

        boolean hasPlaceForDeeds(int more) {
            return deeds + more <= MOST_DEEDS;
        }

        void passDay() {
            perform(DAY_PASSED);
        }

        void turn(int i, int by) {
            perform(16 * i + by + 6);
        }

        void turnByLot(long lot) {
            if (pieces <= 0) {
                return;
            }
            int i = (int) (lot % pieces);
            if (!wasTouched(i) && lot / 8 % 2 == 0) {
                turn(i, 1);
            }
        }

        private void perform(int deed) {
            if (deeds < 0 || deeds >= MOST_DEEDS) {
                return;
            }
            done[deeds] = deed;
            deeds++;
            if (deed == DAY_PASSED) {
                gainAll();
                return;
            }
            int i = deed >> 4;
            if (isPiece(i)) {
                minutes[i] = ring(minutes[i] + (deed & 15) - 6);
                touchedToday |= 1 << i;
            }
        }

        private void gainAll() {
            int heat = heatAfter(0);
            for (int i = 0; i < MOST_PIECES; i++) {
                minutes[i] = minuteAfter(i, 1, heat);
            }
            today++;
            touchedToday = 0;
        }

        /** All is done anew up to there, so that nothing has to be taken back step by step. */
        void goBackTo(int number) {
            for (int i = 0; i < MOST_PIECES; i++) {
                minutes[i] = starts[i];
            }
            today = 0;
            touchedToday = 0;
            deeds = 0;
            for (int k = 0; k < number && k < MOST_DEEDS; k++) {
                perform(done[k]);
            }
        }

        int keptDeeds(int k) {
            return k >= 0 && k < PLACES ? keptSizes[k] : -1;
        }

        int howManyKept() {
            int many = 0;
            for (int k = 0; k < PLACES; k++) {
                if (keptSizes[k] >= 0) {
                    many++;
                }
            }
            return many;
        }

        void keepIn(int k) {
            if (k < 0 || k >= PLACES) {
                return;
            }
            for (int d = 0; d < MOST_DEEDS; d++) {
                kept[k][d] = done[d];
            }
            keptSizes[k] = deeds;
        }

        void goOnFrom(int k) {
            if (keptDeeds(k) < 0) {
                return;
            }
            for (int d = 0; d < MOST_DEEDS; d++) {
                done[d] = kept[k][d];
            }
            goBackTo(keptSizes[k]);
        }
    }

    /** In which MINUTES each TIMEPIECE STRIKES on one DAY. */
    private static final class Moment {
        private final long[] striking = new long[MOST_PIECES];
        private int pieces;

        void see(House home, int days, int warmth) {
            pieces = home.pieces;
            for (int i = 0; i < pieces && i < MOST_PIECES; i++) {
                striking[i] = home.strikingAfter(i, days, warmth);
            }
        }

        private boolean doMeet(int i, int j) {
            return isSeen(i) && isSeen(j) && (striking[i] & striking[j]) != 0;
        }

        private boolean isSeen(int i) {
            return i >= 0 && i < pieces && i < MOST_PIECES;
        }

        boolean anyMeet() {
            long sounding = 0;
            for (int i = 0; i < pieces && i < MOST_PIECES; i++) {
                if ((sounding & striking[i]) != 0) {
                    return true;
                }
                sounding |= striking[i];
            }
            return false;
        }

        long sounding() {
            long sounding = 0;
            for (int i = 0; i < pieces && i < MOST_PIECES; i++) {
                sounding |= striking[i];
            }
            return sounding;
        }

        int companyOf(int i) {
            int many = 0;
            for (int j = 0; j < pieces; j++) {
                if (j != i && doMeet(i, j)) {
                    many++;
                }
            }
            return many;
        }

        int pairs() {
            int twice = 0;
            for (int i = 0; i < pieces; i++) {
                twice += companyOf(i);
            }
            return twice / 2;
        }

        int whoMeets() {
            int set = 0;
            for (int i = 0; i < pieces; i++) {
                if (companyOf(i) > 0) {
                    set |= 1 << i;
                }
            }
            return set;
        }

        /** 6 times the lesser one of the first pair, and the other one. */
        int leastPair() {
            for (int i = 0; i < pieces; i++) {
                for (int j = i + 1; j < pieces; j++) {
                    if (doMeet(i, j)) {
                        return 6 * i + j;
                    }
                }
            }
            return NONE;
        }

        void shift(int i, int by) {
            if (isSeen(i)) {
                striking[i] = turned(striking[i], ring(by));
            }
        }
    }

    /** Which TOUCHES keep whom apart for some DAYS. */
    private static final class Keeper {
        /** Two TOUCHES by -2 .. 2 differ by at most so much. */
        private static final int REACH = 4;
        private static final int ALL_SHIFTS = (1 << 2 * REACH + 1) - 1;
        private static final int NO_COST = 1 << 30;
        private final int[] minutes = new int[MOST_PIECES];
        private final int[] floors = new int[MOST_PIECES];
        private final long[] gaps = new long[MOST_PIECES * MOST_PIECES];
        /** Of each pair, by bits (the shift and REACH together), by which shifts of the other one they MEET. */
        private final int[] barred = new int[MOST_PIECES * MOST_PIECES];
        private final int[] touches = new int[MOST_PIECES];
        private final int[] best = new int[MOST_PIECES];
        private int pieces;
        private boolean byStairs;
        private int bestCost;

        void look(House home, int days) {
            pieces = Math.min(home.pieces, MOST_PIECES);
            for (int k = 0; k < gaps.length; k++) {
                gaps[k] = 0;
                barred[k] = 0;
            }
            int warmth = 0;
            for (int d = 0; d <= days; d++) {
                noteGaps(home, d, warmth);
                warmth += home.heatAfter(d);
            }
            for (int i = 0; i < pieces; i++) {
                floors[i] = home.floorOf(i);
                for (int j = i + 1; j < pieces; j++) {
                    barred[6 * i + j] = barredShifts(gaps[6 * i + j], home.strikesOf(i), home.strikesOf(j));
                }
            }
        }

        private void noteGaps(House home, int days, int warmth) {
            for (int i = 0; i < pieces; i++) {
                minutes[i] = home.minuteAfter(i, days, warmth);
            }
            for (int i = 0; i < pieces; i++) {
                for (int j = i + 1; j < pieces; j++) {
                    gaps[6 * i + j] |= 1L << ring(minutes[j] - minutes[i]);
                }
            }
        }

        /** They MEET, if the other one begins while the first STRIKES, or the other way round. */
        private static int barredShifts(long gaps, int strikes, int otherStrikes) {
            long meeting = run(ring(1 - otherStrikes), strikes + otherStrikes - 1);
            int set = 0;
            for (int shift = -REACH; shift <= REACH; shift++) {
                if ((turned(gaps, ring(shift)) & meeting) != 0) {
                    set |= 1 << shift + REACH;
                }
            }
            return set;
        }

        private boolean meetBy(int i, int j, int shift) {
            int pair = 6 * i + j;
            return pair >= 0 && pair < barred.length && (barred[pair] >> shift + REACH & 1) == 1;
        }

        int doomedPairs() {
            int many = 0;
            for (int k = 0; k < barred.length; k++) {
                if (barred[k] == ALL_SHIFTS) {
                    many++;
                }
            }
            return many;
        }

        int leastDoomed() {
            for (int k = 0; k < barred.length; k++) {
                if (barred[k] == ALL_SHIFTS) {
                    return k;
                }
            }
            return NONE;
        }

        int fewestOut() {
            int fewest = (1 << pieces) - 1;
            for (int set = fewest; set >= 0; set--) {
                if (Integer.bitCount(set) <= Integer.bitCount(fewest) && agreeWithout(set)) {
                    fewest = set;
                }
            }
            return fewest;
        }

        private boolean agreeWithout(int set) {
            for (int i = 0; i < pieces; i++) {
                for (int j = i + 1; j < pieces; j++) {
                    if ((set >> i & 1) == 0 && (set >> j & 1) == 0 && meetBy(i, j, 0)) {
                        return false;
                    }
                }
            }
            return true;
        }

        boolean findTouches(boolean stairsCount) {
            byStairs = stairsCount;
            bestCost = NO_COST;
            if (doomedPairs() == 0) {
                search(0, 0);
            }
            return bestCost != NO_COST;
        }

        /** Costs never fall from level to level, so what is as dear as the best is left; less comes ahead of more. */
        private void search(int i, int cost) {
            if (cost >= bestCost) {
                return;
            }
            if (i >= pieces || i >= MOST_PIECES) {
                bestCost = cost;
                for (int k = 0; k < MOST_PIECES; k++) {
                    best[k] = touches[k];
                }
                return;
            }
            for (int by = -2; by <= 2; by++) {
                if (fits(i, by)) {
                    touches[i] = by;
                    search(i + 1, by == 0 ? cost : costWith(cost, i));
                }
            }
        }

        private boolean fits(int i, int by) {
            for (int k = 0; k < i; k++) {
                if (meetBy(k, i, by - touches[k])) {
                    return false;
                }
            }
            return true;
        }

        /** By STAIRS: these, then how many (from bit 6 on), then which, in one number. */
        private int costWith(int cost, int i) {
            if (!byStairs) {
                return cost + 1;
            }
            int stairs = Math.max(cost >> 10, 2 * floors[i]);
            return stairs << 10 | (cost & 1023) + 64 + (1 << i);
        }

        int bestTouch(int i) {
            return i >= 0 && i < MOST_PIECES ? best[i] : 0;
        }

        int bestTouched() {
            return bestCost;
        }

        int bestStairs() {
            return bestCost >> 10;
        }

        int bestSet() {
            return bestCost & 63;
        }
    }

    /** She and a cat by turns; a move is 2 times the TIMEPIECE, and 1 more, if it is -1. */
    private static final class Game {
        private static final int MOST_TURNS = 4;
        private final Moment board = new Moment();

        boolean isKeptApart(House home, int rounds) {
            board.see(home, 0, 0);
            return endsApart(2 * rounds);
        }

        int keepingMove(House home, int rounds) {
            board.see(home, 0, 0);
            for (int move = 0; move < 2 * board.pieces; move++) {
                if (endsApartBy(move, 2 * rounds)) {
                    return move;
                }
            }
            return NONE;
        }

        private boolean endsApart(int turns) {
            if (turns <= 0 || turns > MOST_TURNS) {
                return !board.anyMeet();
            }
            boolean hers = turns % 2 == 0;
            for (int move = 0; move < 2 * board.pieces; move++) {
                if (endsApartBy(move, turns) == hers) {
                    return hers;
                }
            }
            return !hers;
        }

        private boolean endsApartBy(int move, int turns) {
            int by = move % 2 == 0 ? 1 : -1;
            board.shift(move / 2, by);
            boolean apart = endsApart(turns - 1);
            board.shift(move / 2, -by);
            return apart;
        }
    }

    /** Chances by DRAUGHTS, and which were told last. */
    private static final class Draughts {
        private static final int MOST_DAYS = 6;
        private final long[] ways = new long[MOST_DAYS + 1];
        private final long[] otherWays = new long[MOST_DAYS + 1];
        private long upperNumber = 0;
        private long lowerNumber = 1;

        void tellMeeting(House home, int i, int j, int days, int p) {
            countWays(ways, home.kindOf(i) == STOPPED ? 0 : p, days);
            countWays(otherWays, home.kindOf(j) == STOPPED ? 0 : p, days);
            int warmth = home.warmthOver(days);
            long striking = home.strikingAfter(i, days, warmth);
            long otherStriking = home.strikingAfter(j, days, warmth);
            long upper = 0;
            for (int a = 0; a <= MOST_DAYS; a++) {
                for (int b = 0; b <= MOST_DAYS; b++) {
                    if ((turned(striking, a) & turned(otherStriking, b)) != 0) {
                        upper += ways[a] * otherWays[b];
                    }
                }
            }
            long lower = 1;
            for (int d = 0; d < days; d++) {
                lower *= 12 * 12;
            }
            tell(upper, lower);
        }

        /** In how many of 12 to the DAYS ways so many DRAUGHTS come. */
        private static void countWays(long[] ways, int p, int days) {
            for (int a = 0; a < ways.length; a++) {
                ways[a] = a == 0 ? 1 : 0;
            }
            for (int d = 0; d < days; d++) {
                for (int a = ways.length - 1; a >= 0; a--) {
                    ways[a] = ways[a] * (12 - p) + (a == 0 ? 0 : ways[a - 1] * p);
                }
            }
        }

        void tell(long upper, long lower) {
            long shared = upper;
            long rest = lower;
            for (int step = 0; step < 100 && rest != 0; step++) {
                long next = shared % rest;
                shared = rest;
                rest = next;
            }
            if (shared > 0) {
                upperNumber = upper / shared;
                lowerNumber = lower / shared;
            }
        }
    }
}
