import java.util.Arrays;

/**
 * A map of wells and of the ground that each serves, drawn without rounding.
 *
 * All rows are made with the object and used again, so that no call makes anything new. What
 * costs much to find (a ground, the rings, the largest dry round, the net, the hull) is kept
 * until the wells, the map's size or the season change.
 */
public final class WellMap {

    public static final int NONE = -1;

    private static final int MOST_WELLS = 24;
    private static final int LONGEST_SIDE = 1000;
    private static final int FIRST_SIDE = 100;
    private static final int SEASONS = 4;
    private static final int MOST_BELOW = 1000;

    private static final int DEEP = 1;
    private static final int MARKED = 2;
    private static final int DRY = 3;
    private static final int SEASONAL = 4;

    /** By kind: the least and the most that a well's number may be. */
    private static final int[] LEAST_NUMBER = {0, 0, 0, 0, 1};
    private static final int[] MOST_NUMBER = {0, 1000000, 999999, 0, 15};

    private static final int PLACE_TAKEN = -2;
    private static final int NO_ROOM = -3;
    private static final int OTHER_KIND = -2;
    private static final int FIRST_REFUSED = -2;

    private static final int SHEETS = 8;
    private static final int LINES = 8;
    private static final int KEPT_CHANGES = 8;

    /** Above all that is ever compared with it. */
    private static final long FAR = 1L << 60;

    /** Euclid's steps on two longs are fewer than a hundred. */
    private static final int MOST_STEPS = 200;

    private final Wells wells;
    private final Past past;
    private final Sheets sheets;
    private final Ground ground;
    private final Rounds rounds;
    private final DryRound dry;
    private final Net net;
    private final Hull outer;
    private final Ways ways;
    private final long[] costs;

    public WellMap() {
        wells = new Wells();
        past = new Past();
        sheets = new Sheets();
        ground = new Ground(wells);
        rounds = new Rounds(wells);
        dry = new DryRound(wells);
        net = new Net(wells);
        outer = new Hull(wells);
        ways = new Ways(wells);
        costs = new long[MOST_WELLS];
    }

    public boolean rectangle(int wide, int high) {
        if (!wells.fitInto(wide, high)) {
            return false;
        }
        past.remember(wells);
        wells.resize(wide, high);
        return true;
    }

    public int season(int s) {
        if (s < 0 || s >= SEASONS) {
            return NONE;
        }
        int before = wells.season;
        wells.turnTo(s);
        return before;
    }

    public int sink(int x, int y, int kind, int number) {
        if (!wells.mayBe(x, y, kind, number)) {
            return NONE;
        }
        if (wells.isTaken(x, y)) {
            return PLACE_TAKEN;
        }
        int w = wells.leastFree();
        if (w == NONE) {
            return NO_ROOM;
        }
        past.remember(wells);
        wells.put(w, x, y, kind, number);
        return w;
    }

    public int fill(int w) {
        if (!wells.has(w)) {
            return NONE;
        }
        past.remember(wells);
        wells.put(w, 0, 0, NONE, 0);
        return wells.total;
    }

    public int become(int w, int kind, int number) {
        if (!wells.has(w) || !mayHave(kind, number)) {
            return NONE;
        }
        int before = wells.kind[w];
        past.remember(wells);
        wells.put(w, wells.x[w], wells.y[w], kind, number);
        return before;
    }

    public int well(int w, int what) {
        if (!wells.has(w)) {
            return NONE;
        }
        switch (what) {
            case 0:
                return wells.x[w];
            case 1:
                return wells.y[w];
            case 2:
                return wells.kind[w];
            case 3:
                return wells.isCounted(w) ? 1 : 0;
            default:
                return NONE;
        }
    }

    public int ask(int w, int as) {
        if (!wells.has(w)) {
            return NONE;
        }
        int kind = wells.kind[w];
        // A seasonal well is a dry one too, and a dry one is a marked one whose word is 0.
        boolean alsoDry = kind == DRY || kind == SEASONAL;
        switch (as) {
            case 0:
                return kind == DEEP ? wells.number[w] : OTHER_KIND;
            case 1:
                return kind == MARKED ? wells.number[w] : alsoDry ? 0 : OTHER_KIND;
            case 2:
                return alsoDry ? 0 : OTHER_KIND;
            case 3:
                return kind == SEASONAL ? wells.number[w] : OTHER_KIND;
            default:
                return NONE;
        }
    }

    public int count(int what) {
        switch (what) {
            case 0:
                return wells.total;
            case 1:
                return wells.many;
            case 2:
                return past.many;
            default:
                return NONE;
        }
    }

    // ---- grounds

    public int serves(int x, int y, int q) {
        if (!isPoint(x, y, q)) {
            return NONE;
        }
        tellCosts(x, y, q);
        int bits = 0;
        for (int k = 0; k < wells.many; k++) {
            if (rankOf(k, false) == 0) {
                bits |= 1 << wells.counted[k];
            }
        }
        return bits;
    }

    public int next(int x, int y, int q, int k) {
        if (!isPoint(x, y, q)) {
            return NONE;
        }
        tellCosts(x, y, q);
        for (int i = 0; i < wells.many; i++) {
            if (rankOf(i, true) == k) {
                return wells.counted[i];
            }
        }
        return NONE;
    }

    public int corners(int w) {
        if (!wells.has(w)) {
            return NONE;
        }
        ground.drawOnce(w);
        return ground.size();
    }

    public long corner(int w, int k, int what) {
        if (!wells.has(w)) {
            return NONE;
        }
        ground.drawOnce(w);
        return ground.tell(ground.cornerAt(k), what);
    }

    public int beside(int v, int w) {
        if (!areTwo(v, w)) {
            return NONE;
        }
        ground.drawOnce(v);
        return ground.sharedWith(w) > 1 ? 1 : 0;
    }

    public int border(int v, int w) {
        if (!areTwo(v, w)) {
            return NONE;
        }
        ground.drawOnce(v);
        return ground.sharedWith(w);
    }

    public long end(int v, int w, int k, int what) {
        if (!areTwo(v, w)) {
            return NONE;
        }
        ground.drawOnce(v);
        return ground.tell(ground.endAt(w, k), what);
    }

    public int about(int w) {
        if (!wells.has(w)) {
            return NONE;
        }
        ground.drawOnce(w);
        int bits = 0;
        for (int v = 0; v < MOST_WELLS; v++) {
            if (v != w && ground.sharedWith(v) > 1) {
                bits |= 1 << v;
            }
        }
        return bits;
    }

    // ---- rounds

    public int rings() {
        rounds.findOnce();
        return rounds.many;
    }

    public int ring(int k) {
        rounds.findOnce();
        return k >= 0 && k < rounds.many ? rounds.members[k] : 0;
    }

    public long round(int k, int what) {
        rounds.findOnce();
        return rounds.tell(k, what);
    }

    public long largest(int what) {
        dry.findOnce();
        return dry.tell(what);
    }

    public int closest(int what) {
        // The net's first pipe is taken by the very order that is asked for here.
        net.joinOnce();
        return net.tell(0, what);
    }

    public int nearest(int w) {
        if (!wells.isCounted(w)) {
            return NONE;
        }
        int best = NONE;
        for (int k = 0; k < wells.many; k++) {
            int v = wells.counted[k];
            if (v != w && (best == NONE || wells.square(v, w) < wells.square(best, w))) {
                best = v;
            }
        }
        return best;
    }

    public int tree() {
        net.joinOnce();
        return net.many;
    }

    public int pipe(int k, int what) {
        net.joinOnce();
        return net.tell(k, what);
    }

    public int hull() {
        outer.wrapOnce();
        return outer.many;
    }

    public int around(int k) {
        outer.wrapOnce();
        return k >= 0 && k < outer.many ? outer.turns[k] : NONE;
    }

    public int keep(int from, int to) {
        boolean two = from >= 0 && from < 4 && to >= 0 && to < 4 && from != to;
        return two && wells.many > 0 ? ways.widest(from, to) : NONE;
    }

    // ---- sheets

    public boolean sheet(int s, int n) {
        if (s < 0 || s >= SHEETS || n < NONE || n > LINES) {
            return false;
        }
        sheets.begin(s, n);
        return true;
    }

    public boolean line(int s, int k, int x, int y, int kind, int number) {
        if (!sheets.hasLine(s, k)) {
            return false;
        }
        sheets.write(s * LINES + k, x, y, kind, number);
        return true;
    }

    public int lay(int s) {
        if (!sheets.has(s)) {
            return NONE;
        }
        int n = sheets.length[s];
        for (int k = 0; k < n; k++) {
            if (!maySink(s, k)) {
                return FIRST_REFUSED - k;
            }
        }
        past.remember(wells);
        for (int k = 0; k < n; k++) {
            int at = s * LINES + k;
            wells.put(wells.leastFree(), sheets.x[at], sheets.y[at], sheets.kind[at], sheets.number[at]);
        }
        return n;
    }

    public int undo() {
        return past.takeBack(wells) ? past.many : NONE;
    }

    private boolean areTwo(int v, int w) {
        return v != w && wells.has(v) && wells.has(w);
    }

    private boolean isPoint(int x, int y, int q) {
        return q >= 1 && q <= MOST_BELOW
                && x >= 0 && x <= wells.wide * q
                && y >= 0 && y <= wells.high * q;
    }

    /** The costs of x / q, y / q, all times the square of q, so that they are whole. */
    private void tellCosts(int x, int y, int q) {
        for (int k = 0; k < wells.many; k++) {
            int w = wells.counted[k];
            long across = x - (long) q * wells.x[w];
            long up = y - (long) q * wells.y[w];
            costs[k] = across * across + up * up - (long) q * q * wells.takenOff(w);
        }
    }

    /** How many of those that count go before the k-th of them, with those of the same cost and a lesser number or not. */
    private int rankOf(int k, boolean byNumbers) {
        int rank = 0;
        for (int i = 0; i < wells.many; i++) {
            if (costs[i] < costs[k] || byNumbers && i < k && costs[i] == costs[k]) {
                rank++;
            }
        }
        return rank;
    }

    /** Whether line k of a sheet can be sunk once all lines before it are. */
    private boolean maySink(int s, int k) {
        int at = s * LINES + k;
        return wells.mayBe(sheets.x[at], sheets.y[at], sheets.kind[at], sheets.number[at])
                && !wells.isTaken(sheets.x[at], sheets.y[at])
                && !sheets.isTakenBefore(s, k)
                && wells.total + k < MOST_WELLS;
    }

    private static boolean mayHave(int kind, int number) {
        return kind >= 0 && kind < LEAST_NUMBER.length
                && number >= LEAST_NUMBER[kind] && number <= MOST_NUMBER[kind];
    }

    private static long greatestDivisor(long one, long other) {
        long a = Math.abs(one);
        long b = Math.abs(other);
        for (int step = 0; step < MOST_STEPS && b != 0; step++) {
            long rest = a % b;
            a = b;
            b = rest;
        }
        return a;
    }

    private static long above(long top, long bottom) {
        long divisor = greatestDivisor(top, bottom);
        return divisor == 0 ? top : top / divisor;
    }

    private static long below(long top, long bottom) {
        long divisor = greatestDivisor(top, bottom);
        return divisor == 0 ? bottom : bottom / divisor;
    }

    private static long tellPoint(long x, long y, long over, int what) {
        switch (what) {
            case 0:
                return above(x, over);
            case 1:
                return below(x, over);
            case 2:
                return above(y, over);
            case 3:
                return below(y, over);
            default:
                return NONE;
        }
    }

    private static long tellSquare(long top, long bottom, int what) {
        return what == 4 ? above(top, bottom) : below(top, bottom);
    }

    /**
     * The order of a / b and c / d, none of them below 0. Their products across may not fit into
     * a long, so whole parts are compared, then what is left over, turned upside down.
     */
    private static int compareFractions(long a, long b, long c, long d) {
        int order = 1;
        for (int step = 0; step < MOST_STEPS && b != 0 && d != 0; step++) {
            long whole = a / b;
            int found = Long.compare(whole, c / d);
            if (found != 0) {
                return order * found;
            }
            long left = a % b;
            long otherLeft = c % d;
            if (left == 0 || otherLeft == 0) {
                return order * Long.compare(left, otherLeft);
            }
            a = b;
            b = left;
            c = d;
            d = otherLeft;
            order = -order;
        }
        return 0;
    }

    /** The map's size, the season and the wells; a kind of NONE is a well that is not there. */
    private static final class Wells {
        int wide;
        int high;
        int season;
        int total;
        /** The wells that count, by their numbers. */
        int many;
        final int[] counted;
        /** Goes up with every change, so that what was found before is known to be old. */
        int version;
        final int[] x;
        final int[] y;
        final int[] kind;
        final int[] number;

        Wells() {
            wide = FIRST_SIDE;
            high = FIRST_SIDE;
            counted = new int[MOST_WELLS];
            x = new int[MOST_WELLS];
            y = new int[MOST_WELLS];
            kind = new int[MOST_WELLS];
            number = new int[MOST_WELLS];
            Arrays.fill(kind, NONE);
        }

        boolean has(int w) {
            return w >= 0 && w < MOST_WELLS && kind[w] != NONE;
        }

        boolean isCounted(int w) {
            if (!has(w) || kind[w] == DRY) {
                return false;
            }
            return kind[w] != SEASONAL || (number[w] >> season & 1) == 1;
        }

        int takenOff(int w) {
            return has(w) && kind[w] == DEEP ? number[w] : 0;
        }

        int square(int v, int w) {
            int across = x[v] - x[w];
            int up = y[v] - y[w];
            return across * across + up * up;
        }

        /** Above 0 if c is on the left of the way from a to b, 0 if it is on its line. */
        int turn(int a, int b, int c) {
            return (x[b] - x[a]) * (y[c] - y[a]) - (y[b] - y[a]) * (x[c] - x[a]);
        }

        boolean mayBe(int atX, int atY, int ofKind, int ofNumber) {
            return atX >= 0 && atX <= wide && atY >= 0 && atY <= high && mayHave(ofKind, ofNumber);
        }

        boolean isTaken(int atX, int atY) {
            for (int w = 0; w < MOST_WELLS; w++) {
                if (has(w) && x[w] == atX && y[w] == atY) {
                    return true;
                }
            }
            return false;
        }

        int leastFree() {
            for (int w = 0; w < MOST_WELLS; w++) {
                if (!has(w)) {
                    return w;
                }
            }
            return NONE;
        }

        boolean fitInto(int newWide, int newHigh) {
            if (newWide < 1 || newWide > LONGEST_SIDE || newHigh < 1 || newHigh > LONGEST_SIDE) {
                return false;
            }
            for (int w = 0; w < MOST_WELLS; w++) {
                if (has(w) && (x[w] > newWide || y[w] > newHigh)) {
                    return false;
                }
            }
            return true;
        }

        void resize(int newWide, int newHigh) {
            wide = newWide;
            high = newHigh;
            countAnew();
        }

        void turnTo(int newSeason) {
            season = newSeason;
            countAnew();
        }

        void put(int w, int atX, int atY, int ofKind, int ofNumber) {
            if (w >= 0 && w < MOST_WELLS) {
                x[w] = atX;
                y[w] = atY;
                kind[w] = ofKind;
                number[w] = ofNumber;
                countAnew();
            }
        }

        void countAnew() {
            version++;
            total = 0;
            many = 0;
            for (int w = 0; w < MOST_WELLS; w++) {
                if (has(w)) {
                    total++;
                }
                if (isCounted(w)) {
                    counted[many] = w;
                    many++;
                }
            }
        }
    }

    /** What the map was like before each of the latest changes. */
    private static final class Past {
        int many;
        private int nextSlot;
        private final int[] wide;
        private final int[] high;
        private final int[] x;
        private final int[] y;
        private final int[] kind;
        private final int[] number;

        Past() {
            wide = new int[KEPT_CHANGES];
            high = new int[KEPT_CHANGES];
            x = new int[KEPT_CHANGES * MOST_WELLS];
            y = new int[KEPT_CHANGES * MOST_WELLS];
            kind = new int[KEPT_CHANGES * MOST_WELLS];
            number = new int[KEPT_CHANGES * MOST_WELLS];
        }

        void remember(Wells wells) {
            int from = nextSlot * MOST_WELLS;
            wide[nextSlot] = wells.wide;
            high[nextSlot] = wells.high;
            System.arraycopy(wells.x, 0, x, from, MOST_WELLS);
            System.arraycopy(wells.y, 0, y, from, MOST_WELLS);
            System.arraycopy(wells.kind, 0, kind, from, MOST_WELLS);
            System.arraycopy(wells.number, 0, number, from, MOST_WELLS);
            nextSlot = nextSlot + 1 < KEPT_CHANGES ? nextSlot + 1 : 0;
            many = Math.min(many + 1, KEPT_CHANGES);
        }

        boolean takeBack(Wells wells) {
            if (many == 0) {
                return false;
            }
            many--;
            nextSlot = nextSlot > 0 ? nextSlot - 1 : KEPT_CHANGES - 1;
            int from = nextSlot * MOST_WELLS;
            System.arraycopy(x, from, wells.x, 0, MOST_WELLS);
            System.arraycopy(y, from, wells.y, 0, MOST_WELLS);
            System.arraycopy(kind, from, wells.kind, 0, MOST_WELLS);
            System.arraycopy(number, from, wells.number, 0, MOST_WELLS);
            wells.resize(wide[nextSlot], high[nextSlot]);
            return true;
        }
    }

    /** Rows of wells to be; a length of NONE is a sheet that is missing. */
    private static final class Sheets {
        final int[] length;
        final int[] x;
        final int[] y;
        final int[] kind;
        final int[] number;

        Sheets() {
            length = new int[SHEETS];
            x = new int[SHEETS * LINES];
            y = new int[SHEETS * LINES];
            kind = new int[SHEETS * LINES];
            number = new int[SHEETS * LINES];
            Arrays.fill(length, NONE);
        }

        boolean has(int s) {
            return s >= 0 && s < SHEETS && length[s] != NONE;
        }

        boolean hasLine(int s, int k) {
            return has(s) && k >= 0 && k < length[s];
        }

        void begin(int s, int n) {
            length[s] = n;
            for (int k = 0; k < LINES; k++) {
                write(s * LINES + k, 0, 0, 0, 0);
            }
        }

        void write(int at, int toX, int toY, int toKind, int toNumber) {
            x[at] = toX;
            y[at] = toY;
            kind[at] = toKind;
            number[at] = toNumber;
        }

        boolean isTakenBefore(int s, int k) {
            int at = s * LINES + k;
            for (int i = s * LINES; i < at; i++) {
                if (x[i] == x[at] && y[i] == y[at]) {
                    return true;
                }
            }
            return false;
        }
    }

    /**
     * A ring of points, each with the line on which the way to the next one goes. The points are
     * x / d, y / d and twice as far out as on the map, which keeps borders between wells whole.
     */
    private static final class Outline {
        int many;
        final long[] x;
        final long[] y;
        final long[] d;
        final int[] edge;

        Outline(int most) {
            x = new long[most];
            y = new long[most];
            d = new long[most];
            edge = new int[most];
        }

        void add(long atX, long atY, long over, int onLine) {
            if (many < x.length) {
                x[many] = atX;
                y[many] = atY;
                d[many] = over;
                edge[many] = onLine;
                many++;
            }
        }

        void addFrom(Outline other, int i, int onLine) {
            add(other.x[i], other.y[i], other.d[i], onLine);
        }

        /** Whether point i comes before point j: by x, then by y. */
        boolean isBefore(int i, int j) {
            long across = x[i] * d[j] - x[j] * d[i];
            return across < 0 || across == 0 && y[i] * d[j] < y[j] * d[i];
        }
    }

    /**
     * The ground of one well: the map, cut by the border with every other well. Lines 0 to 3 are
     * the map's sides, line 4 + v is the border with well v; each is a x + b y = c, with the
     * ground where a x + b y is not above c.
     */
    private static final class Ground {
        private static final int SIDES = 4;

        private final Wells wells;
        private final long[] a;
        private final long[] b;
        private final long[] c;
        private Outline now;
        private Outline spare;
        /** By point of the outline: how far it is on the inner side of the line that cuts. */
        private final long[] inside;
        private int first;
        private int drawnWell;
        private int drawnVersion;

        Ground(Wells ofWells) {
            wells = ofWells;
            a = new long[SIDES + MOST_WELLS];
            b = new long[SIDES + MOST_WELLS];
            c = new long[SIDES + MOST_WELLS];
            now = new Outline(SIDES + MOST_WELLS);
            spare = new Outline(SIDES + MOST_WELLS);
            inside = new long[SIDES + MOST_WELLS];
            drawnVersion = NONE;
        }

        void drawOnce(int w) {
            if (drawnWell != w || drawnVersion != wells.version) {
                draw(w, true);
                drawnWell = w;
                drawnVersion = wells.version;
            }
        }

        void draw(int w, boolean lessTakenOff) {
            now.many = 0;
            first = 0;
            if (!wells.isCounted(w)) {
                return;
            }
            beginWithMap();
            for (int k = 0; k < wells.many; k++) {
                int v = wells.counted[k];
                if (v != w) {
                    setBorder(v, w, lessTakenOff);
                    cut(SIDES + v);
                }
            }
            for (int i = 1; i < now.many; i++) {
                if (now.isBefore(i, first)) {
                    first = i;
                }
            }
        }

        int size() {
            return now.many;
        }

        Outline outline() {
            return now;
        }

        /** Where corner k stands in the outline. */
        int cornerAt(int k) {
            if (k < 0 || k >= now.many) {
                return NONE;
            }
            int i = first + k;
            return i < now.many ? i : i - now.many;
        }

        /** How many of the ground's corners the ground of v has too. */
        int sharedWith(int v) {
            if (!wells.isCounted(v)) {
                return 0;
            }
            int shared = 0;
            for (int i = 0; i < now.many; i++) {
                if (innerSide(SIDES + v, i) == 0) {
                    shared++;
                }
            }
            return shared;
        }

        /** Where end k of the border with v stands in the outline. */
        int endAt(int v, int k) {
            if (k < 0 || k >= sharedWith(v)) {
                return NONE;
            }
            int least = NONE;
            int other = NONE;
            for (int i = 0; i < now.many; i++) {
                if (innerSide(SIDES + v, i) == 0) {
                    if (least == NONE || now.isBefore(i, least)) {
                        other = least;
                        least = i;
                    } else {
                        other = i;
                    }
                }
            }
            return k == 0 ? least : other;
        }

        long tell(int i, int what) {
            if (i < 0 || i >= now.many) {
                return NONE;
            }
            return tellPoint(now.x[i], now.y[i], 2 * now.d[i], what);
        }

        private void beginWithMap() {
            int right = 2 * wells.wide;
            int top = 2 * wells.high;
            setLine(0, 0, -1, 0);
            setLine(1, 1, 0, right);
            setLine(2, 0, 1, top);
            setLine(3, -1, 0, 0);
            now.add(0, 0, 1, 0);
            now.add(right, 0, 1, 1);
            now.add(right, top, 1, 2);
            now.add(0, top, 1, 3);
        }

        private void setLine(int line, int ofX, int ofY, int most) {
            a[line] = ofX;
            b[line] = ofY;
            c[line] = most;
        }

        private void setBorder(int v, int w, boolean lessTakenOff) {
            int most = fromOrigin(v) - fromOrigin(w);
            if (lessTakenOff) {
                most += wells.takenOff(w) - wells.takenOff(v);
            }
            setLine(SIDES + v, wells.x[v] - wells.x[w], wells.y[v] - wells.y[w], most);
        }

        private int fromOrigin(int w) {
            return wells.x[w] * wells.x[w] + wells.y[w] * wells.y[w];
        }

        private long innerSide(int line, int i) {
            return c[line] * now.d[i] - a[line] * now.x[i] - b[line] * now.y[i];
        }

        /** Leaves of the outline what is on the inner side of a line, or on it. */
        private void cut(int line) {
            boolean someInside = false;
            boolean someOutside = false;
            for (int i = 0; i < now.many; i++) {
                inside[i] = innerSide(line, i);
                someInside |= inside[i] > 0;
                someOutside |= inside[i] < 0;
            }
            if (!someOutside) {
                return;
            }
            spare.many = 0;
            if (!someInside) {
                leaveTouched(line);
            } else if (now.many == 2) {
                cutPiece(line);
            } else {
                cutRing(line);
            }
            Outline old = now;
            now = spare;
            spare = old;
        }

        /** All but what lies on the line is outside, so that a piece of it, a point or nothing is left. */
        private void leaveTouched(int line) {
            for (int i = 0; i < now.many; i++) {
                if (inside[i] == 0) {
                    spare.addFrom(now, i, line);
                }
            }
        }

        /** A piece of a line has one edge and no way back, so that it can't be cut as a ring is. */
        private void cutPiece(int line) {
            for (int i = 0; i < now.many; i++) {
                if (inside[i] > 0) {
                    spare.addFrom(now, i, now.edge[i]);
                } else {
                    addCrossing(now.edge[i], line, now.edge[i]);
                }
            }
        }

        private void cutRing(int line) {
            for (int i = 0; i < now.many; i++) {
                int j = i + 1 < now.many ? i + 1 : 0;
                if (inside[i] > 0) {
                    spare.addFrom(now, i, now.edge[i]);
                    if (inside[j] < 0) {
                        addCrossing(now.edge[i], line, line);
                    }
                } else if (inside[i] == 0) {
                    spare.addFrom(now, i, inside[j] < 0 ? line : now.edge[i]);
                } else if (inside[j] > 0) {
                    addCrossing(now.edge[i], line, now.edge[i]);
                }
            }
        }

        private void addCrossing(int one, int other, int onLine) {
            long d = a[one] * b[other] - a[other] * b[one];
            long x = c[one] * b[other] - c[other] * b[one];
            long y = a[one] * c[other] - a[other] * c[one];
            if (d < 0) {
                spare.add(-x, -y, -d, onLine);
            } else if (d > 0) {
                spare.add(x, y, d, onLine);
            }
        }
    }

    /** The rings of wells about empty rounds, in order. */
    private static final class Rounds {
        /** Of n wells there are at most 2 n - 5 rings. */
        private static final int MOST_RINGS = 2 * MOST_WELLS;

        private final Wells wells;
        private int foundVersion;
        int many;
        final int[] members;
        /** The first well of each ring, and how far from it the middle is, as fractions over d. */
        private final int[] firstWell;
        private final long[] across;
        private final long[] up;
        private final long[] d;
        /** The round that is being looked at, likewise. */
        private long nowAcross;
        private long nowUp;
        private long nowD;

        Rounds(Wells ofWells) {
            wells = ofWells;
            foundVersion = NONE;
            members = new int[MOST_RINGS];
            firstWell = new int[MOST_RINGS];
            across = new long[MOST_RINGS];
            up = new long[MOST_RINGS];
            d = new long[MOST_RINGS];
        }

        /** Two rounds share two wells at most, so that a ring's first three wells give its order. */
        void findOnce() {
            if (foundVersion == wells.version) {
                return;
            }
            foundVersion = wells.version;
            many = 0;
            for (int i = 0; i < wells.many; i++) {
                for (int j = i + 1; j < wells.many; j++) {
                    for (int k = j + 1; k < wells.many; k++) {
                        look(wells.counted[i], wells.counted[j], wells.counted[k]);
                    }
                }
            }
        }

        long tell(int k, int what) {
            if (k < 0 || k >= many) {
                return NONE;
            }
            long middleX = wells.x[firstWell[k]] * d[k] + across[k];
            long middleY = wells.y[firstWell[k]] * d[k] + up[k];
            long square = across[k] * across[k] + up[k] * up[k];
            boolean ofSquare = what == 4 || what == 5;
            return ofSquare ? tellSquare(square, d[k] * d[k], what) : tellPoint(middleX, middleY, d[k], what);
        }

        private void look(int u, int v, int w) {
            if (!setRound(u, v, w)) {
                return;
            }
            int bits = ringFrom(u, v, w);
            if (bits != 0 && many < MOST_RINGS) {
                members[many] = bits;
                firstWell[many] = u;
                across[many] = nowAcross;
                up[many] = nowUp;
                d[many] = nowD;
                many++;
            }
        }

        /** False for three wells on one line. */
        private boolean setRound(int u, int v, int w) {
            long turn = wells.turn(u, v, w);
            long squareV = turn < 0 ? -wells.square(u, v) : wells.square(u, v);
            long squareW = turn < 0 ? -wells.square(u, w) : wells.square(u, w);
            nowD = 2 * Math.abs(turn);
            nowAcross = (wells.y[w] - wells.y[u]) * squareV - (wells.y[v] - wells.y[u]) * squareW;
            nowUp = (wells.x[v] - wells.x[u]) * squareW - (wells.x[w] - wells.x[u]) * squareV;
            return turn != 0;
        }

        /** The wells on the round; 0 if a well is within it, or if u, v, w are not the first three on it. */
        private int ringFrom(int u, int v, int w) {
            int bits = 0;
            for (int k = 0; k < wells.many; k++) {
                int t = wells.counted[k];
                long outside = outsideBy(u, t);
                if (outside < 0 || outside == 0 && t < w && t != u && t != v) {
                    return 0;
                }
                if (outside == 0) {
                    bits |= 1 << t;
                }
            }
            return bits;
        }

        private long outsideBy(int u, int t) {
            return wells.square(u, t) * nowD
                    - 2 * ((wells.x[t] - wells.x[u]) * nowAcross + (wells.y[t] - wells.y[u]) * nowUp);
        }
    }

    /**
     * The largest dry round: within a ground the distance from its well is greatest at a corner,
     * so the corners of all grounds are looked at, with nothing taken off.
     */
    private static final class DryRound {
        private final Wells wells;
        private final Ground ground;
        private int foundVersion;
        private boolean found;
        /** The best corner, and the square of its distance, top / bottom. */
        private final Outline best;
        private long top;
        private long bottom;

        DryRound(Wells ofWells) {
            wells = ofWells;
            ground = new Ground(ofWells);
            best = new Outline(2);
            foundVersion = NONE;
        }

        void findOnce() {
            if (foundVersion == wells.version) {
                return;
            }
            foundVersion = wells.version;
            found = false;
            for (int k = 0; k < wells.many; k++) {
                int w = wells.counted[k];
                ground.draw(w, false);
                for (int i = 0; i < ground.size(); i++) {
                    lookAt(ground.outline(), i, w);
                }
            }
        }

        long tell(int what) {
            if (!found) {
                return NONE;
            }
            boolean ofSquare = what == 4 || what == 5;
            return ofSquare ? tellSquare(top, bottom, what) : tellPoint(best.x[0], best.y[0], 2 * best.d[0], what);
        }

        private void lookAt(Outline corners, int i, int w) {
            long over = corners.d[i];
            long across = corners.x[i] - 2 * wells.x[w] * over;
            long up = corners.y[i] - 2 * wells.y[w] * over;
            long square = across * across + up * up;
            long squareOver = 4 * over * over;
            int order = found ? compareFractions(square, squareOver, top, bottom) : 1;
            if (order > 0 || order == 0 && isBeforeBest(corners, i)) {
                found = true;
                best.many = 0;
                best.addFrom(corners, i, 0);
                top = square;
                bottom = squareOver;
            }
        }

        private boolean isBeforeBest(Outline corners, int i) {
            best.many = 1;
            best.addFrom(corners, i, 0);
            return best.isBefore(1, 0);
        }
    }

    /**
     * The net of pipes. It grows from one well by the least pipe that reaches a new one; as no two
     * pipes are alike in order, it is the same net as the one taken from the shortest on.
     */
    private static final class Net {
        private final Wells wells;
        private int joinedVersion;
        int many;
        /** Square, lesser well and other one in a single number, which orders pipes as they are taken. */
        private final long[] pipes;
        /** By place among those that count: the least pipe to what is joined, NONE once it is joined itself. */
        private final long[] reach;

        Net(Wells ofWells) {
            wells = ofWells;
            joinedVersion = NONE;
            pipes = new long[MOST_WELLS];
            reach = new long[MOST_WELLS];
        }

        void joinOnce() {
            if (joinedVersion == wells.version) {
                return;
            }
            joinedVersion = wells.version;
            many = 0;
            Arrays.fill(reach, FAR);
            int joined = 0;
            for (int step = 1; step < wells.many; step++) {
                reach[joined] = NONE;
                reachFrom(joined);
                joined = leastReach();
                addInOrder(reach[joined]);
            }
        }

        int tell(int k, int what) {
            if (k < 0 || k >= many) {
                return NONE;
            }
            switch (what) {
                case 0:
                    return (int) (pipes[k] >> 5 & 31);
                case 1:
                    return (int) (pipes[k] & 31);
                case 2:
                    return (int) (pipes[k] >> 10);
                default:
                    return NONE;
            }
        }

        private void reachFrom(int joined) {
            for (int k = 0; k < wells.many; k++) {
                if (reach[k] != NONE) {
                    reach[k] = Math.min(reach[k], pipeBetween(wells.counted[joined], wells.counted[k]));
                }
            }
        }

        private long pipeBetween(int v, int w) {
            return (long) wells.square(v, w) << 10 | Math.min(v, w) << 5 | Math.max(v, w);
        }

        private int leastReach() {
            int least = 0;
            for (int k = 1; k < wells.many; k++) {
                if (reach[k] != NONE && (reach[least] == NONE || reach[k] < reach[least])) {
                    least = k;
                }
            }
            return least;
        }

        private void addInOrder(long pipe) {
            if (many >= MOST_WELLS - 1) {
                return;
            }
            int at = many;
            for (int k = many - 1; k >= 0 && pipes[k] > pipe; k--) {
                pipes[k + 1] = pipes[k];
                at = k;
            }
            pipes[at] = pipe;
            many++;
        }
    }

    /** The wells at which the ring around all that count turns. */
    private static final class Hull {
        private final Wells wells;
        private int wrappedVersion;
        int many;
        final int[] turns;

        Hull(Wells ofWells) {
            wells = ofWells;
            wrappedVersion = NONE;
            turns = new int[MOST_WELLS];
        }

        void wrapOnce() {
            if (wrappedVersion == wells.version) {
                return;
            }
            wrappedVersion = wells.version;
            many = 0;
            int start = leastPlace();
            int at = start;
            for (int step = 0; step < MOST_WELLS && at != NONE; step++) {
                turns[many] = at;
                many++;
                int after = rightmostFrom(at);
                at = after == start ? NONE : after;
            }
        }

        private int leastPlace() {
            int least = NONE;
            for (int k = 0; k < wells.many; k++) {
                int w = wells.counted[k];
                if (least == NONE || wells.x[w] < wells.x[least]
                        || wells.x[w] == wells.x[least] && wells.y[w] < wells.y[least]) {
                    least = w;
                }
            }
            return least;
        }

        /** The well that leaves all others on the left, seen from one of the hull; of several the farthest. */
        private int rightmostFrom(int at) {
            int best = NONE;
            for (int k = 0; k < wells.many; k++) {
                int w = wells.counted[k];
                if (w != at && (best == NONE || isFartherRight(at, best, w))) {
                    best = w;
                }
            }
            return best;
        }

        private boolean isFartherRight(int at, int best, int w) {
            int turn = wells.turn(at, best, w);
            return turn < 0 || turn == 0 && wells.square(at, w) > wells.square(at, best);
        }
    }

    /**
     * Ways from corner to corner. The two corners part the map's rim in two; a way is barred by a
     * chain of wells from one part to the other, and passes it at its widest gap. All gaps are
     * four times the square of the distance that can be kept in them. The corners themselves need
     * no look: the sides that meet there are of different parts, and a well is nearer to both of
     * them than to their corner.
     */
    private static final class Ways {
        private final Wells wells;
        /** By place among those that count: the widest gap of the best chain from the first part, NONE once it is final. */
        private final long[] gap;

        Ways(Wells ofWells) {
            wells = ofWells;
            gap = new long[MOST_WELLS];
        }

        int widest(int from, int to) {
            int firstCorner = Math.min(from, to);
            int lastCorner = Math.max(from, to);
            long best = FAR;
            for (int k = 0; k < wells.many; k++) {
                gap[k] = toRim(wells.counted[k], firstCorner, lastCorner, true);
            }
            for (int step = 0; step < wells.many; step++) {
                int k = leastGap();
                long reached = gap[k];
                long across = Math.max(reached, toRim(wells.counted[k], firstCorner, lastCorner, false));
                best = Math.min(best, across);
                gap[k] = NONE;
                chainFrom(k, reached);
            }
            return (int) best;
        }

        private void chainFrom(int joined, long reached) {
            for (int k = 0; k < wells.many; k++) {
                if (gap[k] != NONE) {
                    long between = wells.square(wells.counted[joined], wells.counted[k]);
                    gap[k] = Math.min(gap[k], Math.max(reached, between));
                }
            }
        }

        private int leastGap() {
            int least = 0;
            for (int k = 1; k < wells.many; k++) {
                if (gap[k] != NONE && (gap[least] == NONE || gap[k] < gap[least])) {
                    least = k;
                }
            }
            return least;
        }

        /** Side s goes from corner s to the next one; the sides between the two corners are the one part. */
        private long toRim(int w, int firstCorner, int lastCorner, boolean between) {
            long least = FAR;
            for (int side = 0; side < 4; side++) {
                if ((side >= firstCorner && side < lastCorner) == between) {
                    long away = toSide(w, side);
                    least = Math.min(least, 4 * away * away);
                }
            }
            return least;
        }

        private int toSide(int w, int side) {
            switch (side) {
                case 0:
                    return wells.y[w];
                case 1:
                    return wells.wide - wells.x[w];
                case 2:
                    return wells.high - wells.y[w];
                default:
                    return wells.x[w];
            }
        }
    }
}
