import java.util.Arrays;

/**
 * One picture in PARTS, sat for by the whole street. ../shared/DOC.md says what each call does; the
 * words in capitals are that document's.
 */
public final class PartSitters {
    public static final int BAD = -1, STATE = -2, FULL = -3, NONE = -4;

    private static final int MOST_PARTS = 6, MOST_LAYERS = 4, MOST_SITTERS = 5, MOST_BONDS = 5;
    private static final int MOST_FORGERS = 4, MOST_SEEN = 6, MOST_DAYS = 60;
    private static final int IMAGES = 2, SHEETS = 4, LANES = 3, MOST_CELLS = 40, MOST_READ = 20;
    private static final int TAPE_SIZE = 160, DAY_LIMIT = 1000, MOST_EARNED = 999, WEEK = 7;
    private static final int PLAIN = 0, TWIN = 1, SHADOW = 2, STRANGER = 3;
    private static final int NULL_FAULT = 1, INDEX_FAULT = 2, CAST_FAULT = 3, SIZE_FAULT = 4;
    /** Far more than the 15625 PICTURES that there can be, and than the steps through them. */
    private static final int MANY = 1000000;

    private final Reader reader = new Reader();
    private final Street street = new Street();
    /** What is tried out first, so that THE STREET itself stays as it is. */
    private final Street trial = new Street();
    private final Street[] images = new Street[IMAGES];
    private final boolean[] kept = new boolean[IMAGES];
    private final Seen seen = new Seen();
    private final Walk walk = new Walk(street, seen);
    private final Sheet[] sheets = new Sheet[SHEETS];
    private final int[] had = new int[MOST_SITTERS];
    private final int[] same = new int[MOST_PARTS * MOST_PARTS];
    private int torn = 0;

    public PartSitters() {
        for (int k = 0; k < IMAGES; k++) {
            images[k] = new Street();
        }
        for (int k = 0; k < SHEETS; k++) {
            sheets[k] = new Sheet();
        }
    }

    // ---- the text, what there is

    public int feed(int c) {
        if (!within(c, 0, 127)) {
            return BAD;
        }
        return reader.take(c) ? reader.length : FULL;
    }

    public int end(int n) {
        if (!within(n, 0, reader.length)) {
            return BAD;
        }
        int before = reader.length;
        reader.length = n;
        return before;
    }

    public int text() {
        int lines = reader.readText();
        if (lines >= 0) {
            street.becomes(reader.draft);
            seen.size = 0;
            for (int k = 0; k < IMAGES; k++) {
                kept[k] = false;
            }
        }
        return lines;
    }

    public int fault() {
        return reader.fault;
    }

    public int rule(int what) {
        switch (what) {
            case 0: return street.parts;
            case 1: return street.sitters;
            case 2: return street.bonds;
            case 3: return street.forgers;
            case 4: return street.day;
            case 5: return street.last;
            case 6: return street.showing(NONE);
            default: return BAD;
        }
    }

    public int part(int p, int what) {
        if (!street.hasPart(p)) {
            return BAD;
        }
        switch (what) {
            case 0: return street.worths[p];
            case 1: return street.heights[p];
            case 2: return street.top(p);
            default: return BAD;
        }
    }

    public int layer(int p, int k) {
        if (!street.hasPart(p) || !within(k, 0, street.heights[p] - 1)) {
            return BAD;
        }
        return street.layers[p * MOST_LAYERS + k];
    }

    public int sitter(int s, int what) {
        if (!street.hasSitter(s)) {
            return BAD;
        }
        switch (what) {
            case 0: return street.kinds[s];
            case 1: return street.miens[s];
            case 2: return street.asks[s];
            case 3: return street.free[s];
            case 4: return street.earned[s];
            case 5: return street.showing(s);
            default: return BAD;
        }
    }

    public int bond(int b, int what) {
        if (!within(b, 0, street.bonds - 1)) {
            return BAD;
        }
        switch (what) {
            case 0: return street.ones[b];
            case 1: return street.others[b];
            case 2: return street.showsLike(b) ? 1 : 0;
            default: return BAD;
        }
    }

    public int forger(int f) {
        return within(f, 0, street.forgers - 1) ? street.unknown[f] : BAD;
    }

    // ---- what is changed

    public int paint(int p, int s) {
        return street.sit(p, s);
    }

    public int scrape(int p) {
        if (!street.hasPart(p)) {
            return BAD;
        }
        int shown = street.top(p);
        if (shown == NONE) {
            return STATE;
        }
        street.heights[p]--;
        return shown;
    }

    public int alter(int s, int what, int v) {
        if (!street.hasSitter(s)) {
            return BAD;
        }
        switch (what) {
            case 0: return exchange(street.kinds, s, v, STRANGER);
            case 1: return exchange(street.miens, s, v, 5);
            case 2: return exchange(street.asks, s, v, 9);
            case 3: return exchange(street.free, s, v, (1 << WEEK) - 1);
            default: return BAD;
        }
    }

    public int worth(int p, int v) {
        return street.hasPart(p) ? exchange(street.worths, p, v, 9) : BAD;
    }

    public int like(int s, int t) {
        if (!street.hasSitter(s) || !street.hasSitter(t)) {
            return BAD;
        }
        return street.areLike(s, t) ? 1 : 0;
    }

    // ---- days

    public int go(int n) {
        if (!within(n, 0, MOST_DAYS)) {
            return BAD;
        }
        if (street.day + n >= DAY_LIMIT) {
            return FULL;
        }
        int painted = 0;
        for (int i = 0; i < n; i++) {
            painted += street.passDay();
        }
        return painted;
    }

    public int ahead(int s, int n, int what) {
        if (!street.hasSitter(s) || !within(n, 0, MOST_DAYS) || !within(what, 0, 1)) {
            return BAD;
        }
        trial.becomes(street);
        for (int i = 0; i < n; i++) {
            trial.passDay();
        }
        return what == 0 ? trial.earned[s] - street.earned[s] : trial.showing(s);
    }

    public int when(int p, int s) {
        if (!street.hasPart(p) || !street.hasSitter(s)) {
            return BAD;
        }
        trial.becomes(street);
        for (int days = 0; days <= MOST_DAYS; days++) {
            if (trial.top(p) == s) {
                return days;
            }
            trial.passDay();
        }
        return NONE;
    }

    public int even() {
        if (street.sitters == 0) {
            return NONE;
        }
        trial.becomes(street);
        Arrays.fill(had, 0);
        for (int days = 1; days <= MOST_DAYS; days++) {
            trial.passDay();
            if (allHaveHadAlike()) {
                return days;
            }
        }
        return NONE;
    }

    // ---- what fits

    public int many() {
        walk.begin(false);
        return walk.howMany();
    }

    public int mend(int what) {
        if (!within(what, 0, 1)) {
            return BAD;
        }
        walk.begin(false);
        walk.priceChanges();
        return walk.cheapest(what);
    }

    public int cheap(int m, int what) {
        if (!within(m, 1, MOST_PARTS) || !within(what, 0, 1)) {
            return BAD;
        }
        walk.begin(false);
        walk.priceSittings();
        walk.most = m;
        return walk.cheapest(what);
    }

    public int next(int what) {
        if (!within(what, 0, 1)) {
            return BAD;
        }
        int best = NONE;
        int answer = NONE;
        for (int p = 0; p < street.parts; p++) {
            trial.becomes(street);
            for (int s = 0; s < street.sitters; s++) {
                trial.cover(p, s);
                int shown = trial.likeBonds();
                if (shown > best) {
                    best = shown;
                    answer = 10 * p + s;
                }
            }
        }
        return what == 0 ? answer : best;
    }

    // ---- shares, forgers

    public int value(int some) {
        return within(some, 0, street.everybody()) ? street.valueOf(some) : BAD;
    }

    public long share(int s, int what) {
        if (!street.hasSitter(s) || !within(what, 0, 1)) {
            return BAD;
        }
        // VALUE is a sum over single SITTERS and over pairs of them; of a pair either one is the
        // later in half of the orders, so the mean lies midway between coming first and coming last.
        int first = street.valueOf(1 << s);
        int last = street.valueOf(street.everybody()) - street.valueOf(street.everybody() & ~(1 << s));
        return fraction(first + last, 2, what);
    }

    public int looks(int what) {
        if (!within(what, 0, 1)) {
            return BAD;
        }
        int best = NONE;
        for (int set = 0; set < 1 << street.parts; set++) {
            boolean fewer = best == NONE || Integer.bitCount(set) < Integer.bitCount(best);
            if (fewer && street.exposesAll(set)) {
                best = set;
            }
        }
        return best == NONE || what == 1 ? best : Integer.bitCount(best);
    }

    // ---- odds

    public long alive(int v, int what) {
        if (!within(v, 0, 10) || !within(what, 0, 1)) {
            return BAD;
        }
        long numerator = 1;
        long denominator = 1;
        for (int s = 0; s < street.sitters; s++) {
            if (street.showing(s) != 0) {
                numerator *= 10 - v;
                denominator *= 10;
            }
        }
        return fraction(numerator, denominator, what);
    }

    public long mean(int v, int what) {
        if (!within(v, 0, 10) || !within(what, 0, 1)) {
            return BAD;
        }
        // What hangs on one SITTER counts if he lives, what hangs on two if both do.
        int single = 0;
        for (int s = 0; s < street.sitters; s++) {
            single += street.valueOf(1 << s);
        }
        int paired = street.valueOf(street.everybody()) - single;
        long lives = 10 - v;
        return fraction(10 * lives * single + lives * lives * paired, 100, what);
    }

    // ---- who sat for what

    public int see(int p, int q, boolean is) {
        if (!street.hasPart(p) || !street.hasPart(q) || p == q) {
            return BAD;
        }
        return seen.add(p, q, is) ? seen.size : FULL;
    }

    public int forget(int n) {
        if (!within(n, 0, seen.size)) {
            return BAD;
        }
        int before = seen.size;
        seen.size = n;
        return before;
    }

    public int fits(int what) {
        if (!within(what, 0, 1)) {
            return BAD;
        }
        walk.begin(true);
        if (what == 0) {
            return walk.howMany();
        }
        return walk.advance() ? walk.number() : NONE;
    }

    public int ask(int what) {
        if (!within(what, 0, 1)) {
            return BAD;
        }
        walk.begin(true);
        int now = walk.countSame(same);
        int fewest = now;
        int answer = NONE;
        for (int p = 0; p < street.parts; p++) {
            for (int q = p + 1; q < street.parts; q++) {
                int byOne = same[p * MOST_PARTS + q];
                int left = Math.max(byOne, now - byOne);
                if (left < fewest) {
                    fewest = left;
                    answer = 10 * p + q;
                }
            }
        }
        return answer == NONE || what == 0 ? answer : fewest;
    }

    // ---- by a seed

    public int drift(int seed, int n, int what) {
        if (!within(n, 1, MOST_DAYS) || !within(what, 0, 1)) {
            return BAD;
        }
        if (street.sitters == 0) {
            return STATE;
        }
        trial.becomes(street);
        int now = seed;
        for (int i = 0; i < n; i++) {
            now = follow(now);
            int p = Street.remainder(drawn(now), street.parts);
            now = follow(now);
            trial.cover(p, Street.remainder(drawn(now), street.sitters));
        }
        return what == 0 ? trial.valueOf(trial.everybody()) : trial.likeBonds();
    }

    // ---- images, sheets

    public int keep(int k) {
        if (!within(k, 0, IMAGES - 1)) {
            return BAD;
        }
        int before = kept[k] ? 1 : 0;
        images[k].becomes(street);
        kept[k] = true;
        return before;
    }

    public int back(int k) {
        if (!within(k, 0, IMAGES - 1)) {
            return BAD;
        }
        if (!kept[k]) {
            return STATE;
        }
        street.becomes(images[k]);
        return street.day;
    }

    public int sheet(int k, int lane, int n) {
        if (!within(k, 0, SHEETS - 1) || !within(lane, 0, LANES - 1) || n > MOST_CELLS) {
            return BAD;
        }
        if (n < 0) {
            return -10 - SIZE_FAULT;
        }
        sheets[k].renew(lane, n);
        return 1;
    }

    public int lay(int k, int i, int v) {
        if (!within(k, 0, SHEETS - 1)) {
            return BAD;
        }
        Sheet sheet = sheets[k];
        if (!sheet.isThere()) {
            return -10 - NULL_FAULT;
        }
        if (!sheet.hasCell(i)) {
            return -10 - INDEX_FAULT;
        }
        sheet.write(i, v);
        return 1;
    }

    public int read(int k, int lane, int f, int n) {
        if (!within(k, 0, SHEETS - 1) || !within(lane, 0, LANES - 1) || !within(n, 0, MOST_READ)) {
            return BAD;
        }
        Sheet sheet = sheets[k];
        int found = n == 0 ? 0 : sheet.faultAs(lane);
        int sat = 0;
        trial.becomes(street);
        for (int i = 0; i < n && found == 0; i++) {
            int cell = f + 2 * i;
            if (!sheet.hasCell(cell) || !sheet.hasCell(cell + 1)) {
                found = INDEX_FAULT;
            } else if (trial.sit(sheet.cells[cell], sheet.cells[cell + 1]) < 0) {
                return -20 - i;
            } else {
                sat++;
            }
        }
        street.becomes(trial);
        torn = found;
        return sat;
    }

    public int torn() {
        return torn;
    }

    public int count(int what) {
        switch (what) {
            case 0: return seen.size;
            case 1: return (kept[0] ? 1 : 0) + (kept[1] ? 1 : 0);
            case 2: return reader.length;
            case 3: return sheets[0].isThere() ? sheets[0].size : NONE;
            case 4: return street.sumOf(street.heights);
            case 5: return street.likeBonds();
            case 6: return street.sumOf(street.worths);
            default: return BAD;
        }
    }

    // ---- what several calls use

    private static boolean within(int v, int least, int most) {
        return v >= least && v <= most;
    }

    /** Puts v (0 to most) in a row's place: what stood there; BAD: v is none. */
    private static int exchange(int[] row, int place, int v, int most) {
        if (!within(v, 0, most) || !within(place, 0, row.length - 1)) {
            return BAD;
        }
        int before = row[place];
        row[place] = v;
        return before;
    }

    private static int follow(int seed) {
        return seed * 1103515245 + 12345;
    }

    private static int drawn(int seed) {
        return (seed >>> 16) & 0x7fff;
    }

    /** Of a fraction in lowest terms the numerator (what 0), the denominator (1). */
    private static long fraction(long numerator, long denominator, int what) {
        long a = numerator;
        long b = denominator;
        // Each two turns halve the greater one at least: a long is spent long before 200.
        for (int turn = 0; turn < 200 && b != 0; turn++) {
            long rest = a % b;
            a = b;
            b = rest;
        }
        if (a <= 0) {
            return 0;
        }
        return (what == 0 ? numerator : denominator) / a;
    }

    /** Adds the day that has just passed on trial to what each has had: whether all have alike. */
    private boolean allHaveHadAlike() {
        boolean alike = true;
        for (int s = 0; s < trial.sitters; s++) {
            had[s] += trial.income(s);
            alike = alike && had[s] == had[0];
        }
        return alike;
    }

    /**
     * What a text tells and what has become of it. An IMAGE holds one, too: BONDS and FORGERS ride
     * along there, since only a text changes them and no IMAGE outlives a text.
     */
    static final class Street {
        int parts, sitters, bonds, forgers, day, last;
        final int[] worths = new int[MOST_PARTS];
        final int[] heights = new int[MOST_PARTS];
        final int[] layers = new int[MOST_PARTS * MOST_LAYERS];
        final int[] kinds = new int[MOST_SITTERS];
        final int[] miens = new int[MOST_SITTERS];
        final int[] asks = new int[MOST_SITTERS];
        final int[] free = new int[MOST_SITTERS];
        final int[] earned = new int[MOST_SITTERS];
        final int[] ones = new int[MOST_BONDS];
        final int[] others = new int[MOST_BONDS];
        final int[] unknown = new int[MOST_FORGERS];

        Street() {
            clear();
        }

        /** As at first: four bare PARTS, nobody. */
        void clear() {
            parts = 4;
            sitters = 0;
            bonds = 0;
            forgers = 0;
            day = 0;
            last = NONE;
            Arrays.fill(worths, 1);
            Arrays.fill(heights, 0);
        }

        void becomes(Street other) {
            parts = other.parts;
            sitters = other.sitters;
            bonds = other.bonds;
            forgers = other.forgers;
            day = other.day;
            last = other.last;
            copyRow(other.worths, worths);
            copyRow(other.heights, heights);
            copyRow(other.layers, layers);
            copyRow(other.kinds, kinds);
            copyRow(other.miens, miens);
            copyRow(other.asks, asks);
            copyRow(other.free, free);
            copyRow(other.earned, earned);
            copyRow(other.ones, ones);
            copyRow(other.others, others);
            copyRow(other.unknown, unknown);
        }

        static void copyRow(int[] from, int[] to) {
            System.arraycopy(from, 0, to, 0, Math.min(from.length, to.length));
        }

        /** a modulo b; 0 where there is nothing to divide by. */
        static int remainder(int a, int b) {
            return b > 0 ? a % b : 0;
        }

        boolean hasPart(int p) {
            return p >= 0 && p < parts;
        }

        boolean hasSitter(int s) {
            return s >= 0 && s < sitters;
        }

        /** All SITTERS, as bits. */
        int everybody() {
            return (1 << sitters) - 1;
        }

        /** Who shows on a PART; NONE: it is bare. */
        int top(int p) {
            if (!hasPart(p) || heights[p] == 0) {
                return NONE;
            }
            return layers[p * MOST_LAYERS + heights[p] - 1];
        }

        /** PARTS that show a SITTER, or, for NONE, that are bare (bits). */
        int showing(int s) {
            int bits = 0;
            for (int p = 0; p < parts; p++) {
                if (top(p) == s) {
                    bits |= 1 << p;
                }
            }
            return bits;
        }

        int sumOf(int[] row) {
            int sum = 0;
            for (int p = 0; p < parts && p < row.length; p++) {
                sum += row[p];
            }
            return sum;
        }

        /** As paint(). */
        int sit(int p, int s) {
            if (!hasPart(p) || !hasSitter(s)) {
                return BAD;
            }
            if (heights[p] == MOST_LAYERS) {
                return FULL;
            }
            cover(p, s);
            return heights[p];
        }

        /** A LAYER more; where there are 4, the lowest one goes first. */
        void cover(int p, int s) {
            int lowest = p * MOST_LAYERS;
            if (heights[p] == MOST_LAYERS) {
                System.arraycopy(layers, lowest + 1, layers, lowest, MOST_LAYERS - 1);
                heights[p]--;
            }
            layers[lowest + heights[p]] = s;
            heights[p]++;
        }

        boolean areLike(int s, int t) {
            return s == t || (findsLike(s, t) && findsLike(t, s));
        }

        boolean findsLike(int s, int t) {
            int apart = Math.abs(miens[s] - miens[t]);
            switch (kinds[s]) {
                case PLAIN: return apart <= 1;
                case TWIN: return apart <= 1 || kinds[t] == TWIN;
                case SHADOW: return apart == 0;
                default: return false;
            }
        }

        /** Whether the two PARTS of a BOND show LIKE ones. */
        boolean showsLike(int b) {
            int s = top(ones[b]);
            int t = top(others[b]);
            return s != NONE && t != NONE && areLike(s, t);
        }

        int likeBonds() {
            int found = 0;
            for (int b = 0; b < bonds; b++) {
                if (showsLike(b)) {
                    found++;
                }
            }
            return found;
        }

        /** VALUE of some SITTERS (bits). */
        int valueOf(int some) {
            int sum = 0;
            for (int p = 0; p < parts; p++) {
                if (isAmong(top(p), some)) {
                    sum += worths[p];
                }
            }
            for (int b = 0; b < bonds; b++) {
                boolean both = isAmong(top(ones[b]), some) && isAmong(top(others[b]), some);
                if (both && showsLike(b)) {
                    sum += Math.min(worths[ones[b]], worths[others[b]]);
                }
            }
            return sum;
        }

        static boolean isAmong(int s, int some) {
            return s != NONE && (some >> s & 1) == 1;
        }

        /** Whether on some PARTS (bits) each FORGER has somebody whom he did not know. */
        boolean exposesAll(int set) {
            for (int f = 0; f < forgers; f++) {
                boolean exposed = false;
                for (int p = 0; p < parts; p++) {
                    exposed = exposed || ((set >> p & 1) == 1 && isAmong(top(p), unknown[f]));
                }
                if (!exposed) {
                    return false;
                }
            }
            return true;
        }

        /** One DAY by turns: how many LAYERS are painted. */
        int passDay() {
            int painted = 0;
            int s = comes();
            if (s != NONE) {
                cover(remainder(day, parts), s);
                last = s;
                painted = 1;
            }
            for (int t = 0; t < sitters; t++) {
                earned[t] = Math.min(MOST_EARNED, earned[t] + income(t));
            }
            day++;
            return painted;
        }

        /** Who is FREE and first in turn on DAY; NONE: nobody. */
        int comes() {
            int before = last == NONE ? -1 : last;
            int today = remainder(day, WEEK);
            for (int step = 1; step <= sitters; step++) {
                int s = remainder(before + step, sitters);
                if ((free[s] >> today & 1) == 1) {
                    return s;
                }
            }
            return NONE;
        }

        /** What a SITTER EARNS on a day on which the PARTS show what they show. */
        int income(int s) {
            int sum = 0;
            for (int p = 0; p < parts; p++) {
                if (top(p) == s) {
                    sum += worths[p];
                }
            }
            return kinds[s] == SHADOW ? sum / 2 : sum;
        }
    }

    /** SEEN: two PARTS each, by one SITTER or not. */
    static final class Seen {
        int size = 0;
        final int[] ones = new int[MOST_SEEN];
        final int[] others = new int[MOST_SEEN];
        final boolean[] byOne = new boolean[MOST_SEEN];

        boolean add(int p, int q, boolean is) {
            if (size >= MOST_SEEN) {
                return false;
            }
            ones[size] = p;
            others[size] = q;
            byOne[size] = is;
            size++;
            return true;
        }
    }

    /** A row of CELLS of a lane, or nothing. */
    static final class Sheet {
        static final int NOTHING = -1;
        int lane = 0;
        int size = NOTHING;
        final int[] cells = new int[MOST_CELLS];

        void renew(int newLane, int newSize) {
            lane = newLane;
            size = newSize;
            Arrays.fill(cells, 0);
        }

        boolean isThere() {
            return size != NOTHING;
        }

        boolean hasCell(int i) {
            return i >= 0 && i < size;
        }

        /** A CELL becomes v, as many of its lowest bits as the lane has. */
        void write(int i, int v) {
            if (lane == 0) {
                cells[i] = (byte) v;
            } else if (lane == 1) {
                cells[i] = (short) v;
            } else {
                cells[i] = v;
            }
        }

        /** The FAULT of taking this SHEET as one of a lane; 0. */
        int faultAs(int asked) {
            if (!isThere()) {
                return NULL_FAULT;
            }
            return asked == lane ? 0 : CAST_FAULT;
        }
    }

    /**
     * Goes through the PICTURES that FIT, by number: figures are set PART by PART, and what can not
     * stand beside those before is left out at once.
     */
    static final class Walk {
        /** Above what any PICTURE costs. */
        static final int ENDLESS = 1000;
        final Street street;
        final Seen seen;
        /** How many of SEEN count. */
        int heeded;
        /** Of how many PARTS nobody has more; what all costs stay below. */
        int most, bound;
        /** The PART whose figure is set next; how many PARTS, from the first on, have theirs set. */
        int place, depth;
        final int[] likes = new int[MOST_SITTERS];
        final int[] figures = new int[MOST_PARTS];
        final int[] allowed = new int[MOST_PARTS];
        /** What the figures ahead of a PART cost. */
        final int[] spent = new int[MOST_PARTS + 1];
        final int[] prices = new int[MOST_PARTS * MOST_SITTERS];

        Walk(Street street, Seen seen) {
            this.street = street;
            this.seen = seen;
        }

        /** Starts ahead of the first PICTURE; all costs nothing. */
        void begin(boolean asSeen) {
            heeded = asSeen ? seen.size : 0;
            most = MOST_PARTS;
            bound = ENDLESS;
            depth = street.parts;
            Arrays.fill(prices, 0);
            for (int s = 0; s < street.sitters; s++) {
                likes[s] = 0;
                for (int t = 0; t < street.sitters; t++) {
                    if (street.areLike(s, t)) {
                        likes[s] |= 1 << t;
                    }
                }
            }
            open(0);
        }

        /** Each PART that would show another one costs 1. */
        void priceChanges() {
            for (int p = 0; p < street.parts; p++) {
                for (int s = 0; s < street.sitters; s++) {
                    prices[p * MOST_SITTERS + s] = street.top(p) == s ? 0 : 1;
                }
            }
        }

        /** Each sitting costs what he asks times the WORTH. */
        void priceSittings() {
            for (int p = 0; p < street.parts; p++) {
                for (int s = 0; s < street.sitters; s++) {
                    prices[p * MOST_SITTERS + s] = street.asks[s] * street.worths[p];
                }
            }
        }

        /** The least cost of a PICTURE (what 0), the first such (1); NONE. */
        int cheapest(int what) {
            int first = NONE;
            // Each one found lies below the bound, so it is cheaper than all before.
            for (int turn = 0; turn < MANY && advance(); turn++) {
                bound = spent[street.parts];
                first = number();
            }
            return first == NONE || what == 1 ? first : bound;
        }

        /** How many PICTURES there are: the last PART's figures are counted, not gone through. */
        int howMany() {
            depth = street.parts - 1;
            int found = 0;
            for (int turn = 0; turn < MANY && advance(); turn++) {
                found += Integer.bitCount(allowedAt(depth));
            }
            return found;
        }

        /** How many PICTURES there are; of each two PARTS: in how many of them they are by one. */
        int countSame(int[] same) {
            Arrays.fill(same, 0);
            depth = street.parts - 1;
            int found = 0;
            for (int turn = 0; turn < MANY && advance(); turn++) {
                int lastOnes = allowedAt(depth);
                found += Integer.bitCount(lastOnes);
                markSame(same, lastOnes);
            }
            return found;
        }

        /** Counts the PICTURES that differ in the last PART alone, which is by one of these (bits). */
        void markSame(int[] same, int lastOnes) {
            int each = Integer.bitCount(lastOnes);
            for (int p = 0; p < depth; p++) {
                for (int q = p + 1; q < depth; q++) {
                    if (figures[p] == figures[q]) {
                        same[p * MOST_PARTS + q] += each;
                    }
                }
                same[p * MOST_PARTS + depth] += lastOnes >> figures[p] & 1;
            }
        }

        /** Goes on to the next PICTURE, as far as depth goes; false: there is none left. */
        boolean advance() {
            for (int turn = 0; turn < MANY && place >= 0; turn++) {
                int s = followingFigure();
                if (s == NONE) {
                    place--;
                } else {
                    figures[place] = s;
                    spent[place + 1] = spent[place] + prices[place * MOST_SITTERS + s];
                    if (place == depth - 1) {
                        return true;
                    }
                    open(place + 1);
                }
            }
            return false;
        }

        /** Puts the walk ahead of the first figure of a PART. */
        void open(int p) {
            place = p;
            figures[p] = -1;
            allowed[p] = allowedAt(p);
        }

        /** SITTERS (bits) who can stand on a PART beside the figures ahead of it. */
        int allowedAt(int p) {
            int bits = street.everybody();
            for (int b = 0; b < street.bonds; b++) {
                if (Math.max(street.ones[b], street.others[b]) == p) {
                    bits &= likes[figures[Math.min(street.ones[b], street.others[b])]];
                }
            }
            for (int k = 0; k < heeded; k++) {
                if (Math.max(seen.ones[k], seen.others[k]) == p) {
                    int one = 1 << figures[Math.min(seen.ones[k], seen.others[k])];
                    bits &= seen.byOne[k] ? one : ~one;
                }
            }
            return bits;
        }

        /** The first SITTER above the present figure who can stand there; NONE. */
        int followingFigure() {
            for (int s = figures[place] + 1; s < street.sitters; s++) {
                boolean can = (allowed[place] >> s & 1) == 1
                        && spent[place] + prices[place * MOST_SITTERS + s] < bound;
                if (can && (most >= street.parts || timesAhead(s) < most)) {
                    return s;
                }
            }
            return NONE;
        }

        /** How many PARTS ahead of the present one a SITTER has. */
        int timesAhead(int s) {
            int times = 0;
            for (int p = 0; p < place; p++) {
                if (figures[p] == s) {
                    times++;
                }
            }
            return times;
        }

        /** The PICTURE at hand by its number. */
        int number() {
            int sum = 0;
            for (int p = 0; p < street.parts; p++) {
                sum = sum * street.sitters + figures[p];
            }
            return sum;
        }
    }

    /** THE TAPE; its text is read TOKEN by TOKEN into a draft. */
    static final class Reader {
        static final int END = 0, NAME = 1, NUMBER = 2, SIGN = 3;
        /** Lines by their NAMES; the first four are the KINDS. */
        static final int PARTS_LINE = 4, WORTH_LINE = 5, BOND_LINE = 6, FORGER_LINE = 7, PAINT_LINE = 8;
        static final int LINES = 9;

        final byte[] tape = new byte[TAPE_SIZE];
        int length = 0;
        final Street draft = new Street();
        int fault = 0, faultAt = 0;
        /** The latest TOKEN: where it begins, and the byte behind it. */
        int token, tokenAt, place;
        int figure;
        boolean partsTold;
        int worthsTold;
        int highestPart, highestSitter;

        /** A byte more; false: THE TAPE is full. */
        boolean take(int c) {
            if (length >= TAPE_SIZE) {
                return false;
            }
            tape[length] = (byte) c;
            length++;
            return true;
        }

        /** Reads all, empties THE TAPE: how many lines; -10 less the place of the FAULT. */
        int readText() {
            draft.clear();
            fault = 0;
            place = 0;
            partsTold = false;
            worthsTold = 0;
            highestPart = NONE;
            highestSitter = NONE;
            int lines = 0;
            while (lines <= TAPE_SIZE && readToken() && token != END && readLine()) {
                lines++;
            }
            if (fault == 0 && (highestPart >= draft.parts || highestSitter >= draft.sitters)) {
                refuse(6, length);
            }
            length = 0;
            return fault == 0 ? lines : -10 - faultAt;
        }

        boolean refuse(int why, int where) {
            fault = why;
            faultAt = where;
            return false;
        }

        // Each of the functions below answers false behind a FAULT.

        boolean readLine() {
            int line = token == NAME ? lineBegun() : NONE;
            switch (line) {
                case PLAIN: case TWIN: case SHADOW: case STRANGER: return readSitter(line);
                case PARTS_LINE: return readParts();
                case WORTH_LINE: return readWorth();
                case BOND_LINE: return readBond();
                case FORGER_LINE: return readForger();
                case PAINT_LINE: return readPaint();
                default: return refuse(2, tokenAt);
            }
        }

        boolean readParts() {
            if (partsTold) {
                return refuse(4, tokenAt);
            }
            partsTold = true;
            if (!readNumber(2, MOST_PARTS)) {
                return false;
            }
            draft.parts = figure;
            return readSign();
        }

        boolean readWorth() {
            if (!readNumber(0, MOST_PARTS - 1)) {
                return false;
            }
            int p = notePart();
            if ((worthsTold >> p & 1) == 1) {
                return refuse(4, tokenAt);
            }
            worthsTold |= 1 << p;
            if (!readNumber(0, 9)) {
                return false;
            }
            draft.worths[p] = figure;
            return readSign();
        }

        boolean readSitter(int kind) {
            int s = draft.sitters;
            if (s >= MOST_SITTERS) {
                return refuse(5, tokenAt);
            }
            draft.kinds[s] = kind;
            draft.earned[s] = 0;
            if (!readNumber(0, 5)) {
                return false;
            }
            draft.miens[s] = figure;
            if (!readNumber(0, 9)) {
                return false;
            }
            draft.asks[s] = figure;
            draft.free[s] = readBits(WEEK - 1);
            draft.sitters++;
            return fault == 0;
        }

        boolean readBond() {
            int b = draft.bonds;
            if (b >= MOST_BONDS) {
                return refuse(5, tokenAt);
            }
            if (!readNumber(0, MOST_PARTS - 1)) {
                return false;
            }
            draft.ones[b] = notePart();
            if (!readNumber(0, MOST_PARTS - 1)) {
                return false;
            }
            draft.others[b] = notePart();
            if (draft.others[b] == draft.ones[b]) {
                return refuse(3, tokenAt);
            }
            draft.bonds++;
            return readSign();
        }

        boolean readForger() {
            int f = draft.forgers;
            if (f >= MOST_FORGERS) {
                return refuse(5, tokenAt);
            }
            int bits = readBits(MOST_SITTERS - 1);
            for (int s = 0; s < MOST_SITTERS; s++) {
                if ((bits >> s & 1) == 1) {
                    highestSitter = Math.max(highestSitter, s);
                }
            }
            draft.unknown[f] = bits;
            draft.forgers++;
            return fault == 0;
        }

        boolean readPaint() {
            if (!readNumber(0, MOST_PARTS - 1)) {
                return false;
            }
            int p = notePart();
            if (draft.heights[p] >= MOST_LAYERS) {
                return refuse(5, tokenAt);
            }
            if (!readNumber(0, MOST_SITTERS - 1)) {
                return false;
            }
            highestSitter = Math.max(highestSitter, figure);
            draft.cover(p, figure);
            return readSign();
        }

        /** The NUMBER at hand, which is a PART's; whether there is such a PART is asked behind all. */
        int notePart() {
            highestPart = Math.max(highestPart, figure);
            return figure;
        }

        boolean readNumber(int least, int most) {
            return readToken() && isNumber(least, most);
        }

        boolean isNumber(int least, int most) {
            if (token != NUMBER) {
                return refuse(2, tokenAt);
            }
            return (figure >= least && figure <= most) || refuse(3, tokenAt);
        }

        boolean readSign() {
            return readToken() && (token == SIGN || refuse(2, tokenAt));
        }

        /** NUMBERS (0 to most) up to the sign, each of them once, as bits; 0 behind a FAULT. */
        int readBits(int most) {
            int bits = 0;
            for (int turn = 0; turn <= TAPE_SIZE && readToken() && token != SIGN; turn++) {
                if (!isNumber(0, most)) {
                    return 0;
                }
                if ((bits >> figure & 1) == 1) {
                    refuse(4, tokenAt);
                    return 0;
                }
                bits |= 1 << figure;
            }
            return bits;
        }

        boolean readToken() {
            while (place < length && tape[place] == ' ') {
                place++;
            }
            tokenAt = place;
            if (place >= length) {
                token = END;
                return true;
            }
            if (tape[place] == ';') {
                token = SIGN;
                place++;
                return true;
            }
            place = runEnd('a', 'z');
            if (place > tokenAt) {
                token = NAME;
                return true;
            }
            place = runEnd('0', '9');
            token = NUMBER;
            int figures = place - tokenAt;
            if (figures < 1 || figures > 2) {
                return refuse(1, tokenAt);
            }
            figure = tape[tokenAt] - '0';
            if (figures == 2) {
                figure = 10 * figure + tape[tokenAt + 1] - '0';
            }
            return true;
        }

        /** Behind the bytes of a kind that stand from the present place on. */
        int runEnd(char least, char most) {
            int behind = place;
            while (behind < length && tape[behind] >= least && tape[behind] <= most) {
                behind++;
            }
            return behind;
        }

        /** Which line the NAME at hand begins; NONE. */
        int lineBegun() {
            for (int line = 0; line < LINES; line++) {
                if (isName(nameOf(line))) {
                    return line;
                }
            }
            return NONE;
        }

        boolean isName(String name) {
            int size = place - tokenAt;
            if (name.length() != size) {
                return false;
            }
            for (int i = 0; i < size; i++) {
                if (name.charAt(i) != tape[tokenAt + i]) {
                    return false;
                }
            }
            return true;
        }

        static String nameOf(int line) {
            switch (line) {
                case PLAIN: return "plain";
                case TWIN: return "twin";
                case SHADOW: return "shadow";
                case STRANGER: return "stranger";
                case PARTS_LINE: return "parts";
                case WORTH_LINE: return "worth";
                case BOND_LINE: return "bond";
                case FORGER_LINE: return "forger";
                default: return "paint";
            }
        }
    }
}
