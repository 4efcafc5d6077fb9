import java.math.BigInteger;
import java.util.ArrayList;
import java.util.Arrays;
import java.util.Collections;
import java.util.Comparator;
import java.util.HashMap;
import java.util.List;
import java.util.function.Supplier;
import java.util.TreeMap;
import java.util.TreeSet;

/**
 * The document once more, written with the Java library and by other ways than the class uses:
 * corners by trying every two lines, rounds by every three wells, hulls by every two wells, nets by
 * sorting all pipes, ways by growing rounds, changes by copies of the whole state. Slow and plain.
 */
final class Oracle {

    /** A fraction in lowest terms. */
    static final class Frac implements Comparable<Frac> {
        final BigInteger above;
        final BigInteger below;

        Frac(BigInteger a, BigInteger b) {
            BigInteger g = a.gcd(b);
            if (b.signum() < 0) g = g.negate();
            above = a.divide(g);
            below = b.divide(g);
        }

        static Frac of(long v) {
            return new Frac(BigInteger.valueOf(v), BigInteger.ONE);
        }

        Frac plus(Frac o) {
            return new Frac(above.multiply(o.below).add(o.above.multiply(below)), below.multiply(o.below));
        }

        Frac minus(Frac o) {
            return new Frac(above.multiply(o.below).subtract(o.above.multiply(below)), below.multiply(o.below));
        }

        Frac times(Frac o) {
            return new Frac(above.multiply(o.above), below.multiply(o.below));
        }

        Frac over(Frac o) {
            return new Frac(above.multiply(o.below), below.multiply(o.above));
        }

        int sign() {
            return above.signum();
        }

        @Override public int compareTo(Frac o) {
            return above.multiply(o.below).compareTo(o.above.multiply(below));
        }

        @Override public boolean equals(Object o) {
            return o instanceof Frac f && compareTo(f) == 0;
        }

        @Override public int hashCode() {
            return above.hashCode() * 31 + below.hashCode();
        }
    }

    record Point(Frac x, Frac y) implements Comparable<Point> {
        @Override public int compareTo(Point o) {
            int c = x.compareTo(o.x);
            return c != 0 ? c : y.compareTo(o.y);
        }

        long tell(int what) {
            switch (what) {
                case 0: return x.above.longValueExact();
                case 1: return x.below.longValueExact();
                case 2: return y.above.longValueExact();
                case 3: return y.below.longValueExact();
                default: return -1;
            }
        }
    }

    record Spot(int x, int y, int kind, int number) { }

    record State(int wide, int high, TreeMap<Integer, Spot> wells) { }

    record Circle(Point middle, Frac square, int bits) { }

    private State state = new State(100, 100, new TreeMap<>());
    private final ArrayList<State> past = new ArrayList<>();
    private int season;
    private final Spot[][] sheets = new Spot[8][];
    /** What was found for the state as it is. */
    private final HashMap<String, Object> known = new HashMap<>();

    @SuppressWarnings("unchecked")
    private <T> T once(String name, Supplier<T> find) {
        if (!known.containsKey(name)) known.put(name, find.get());
        return (T) known.get(name);
    }

    // ---- the state

    private void change(State to) {
        past.add(state);
        if (past.size() > 8) past.remove(0);
        state = to;
        known.clear();
    }

    private State withWell(State from, int w, Spot spot) {
        TreeMap<Integer, Spot> wells = new TreeMap<>(from.wells);
        if (spot == null) wells.remove(w); else wells.put(w, spot);
        return new State(from.wide, from.high, wells);
    }

    private static boolean kindAllows(int kind, int number) {
        if (kind == 0 || kind == 3) return number == 0;
        if (kind == 1) return 0 <= number && number <= 1000000;
        if (kind == 2) return 0 <= number && number <= 999999;
        if (kind == 4) return 1 <= number && number <= 15;
        return false;
    }

    private boolean counts(int w) {
        Spot s = state.wells.get(w);
        return s != null && s.kind != 3 && !(s.kind == 4 && (s.number / (1 << season)) % 2 == 0);
    }

    private List<Integer> counting() {
        return new ArrayList<>(once("counting", this::findCounting));
    }

    private List<Integer> findCounting() {
        List<Integer> all = new ArrayList<>();
        for (int w : state.wells.keySet()) if (counts(w)) all.add(w);
        return all;
    }

    boolean rectangle(int wide, int high) {
        if (wide < 1 || wide > 1000 || high < 1 || high > 1000) return false;
        for (Spot s : state.wells.values()) if (s.x > wide || s.y > high) return false;
        change(new State(wide, high, new TreeMap<>(state.wells)));
        return true;
    }

    int season(int s) {
        if (s < 0 || s > 3) return -1;
        int old = season;
        season = s;
        known.clear();
        return old;
    }

    /** The number of the well, or why not. */
    private static int placeFor(State in, Spot spot) {
        if (spot.x < 0 || spot.y < 0 || spot.x > in.wide || spot.y > in.high) return -1;
        if (!kindAllows(spot.kind, spot.number)) return -1;
        for (Spot s : in.wells.values()) if (s.x == spot.x && s.y == spot.y) return -2;
        for (int w = 0; w < 24; w++) if (!in.wells.containsKey(w)) return w;
        return -3;
    }

    int sink(int x, int y, int kind, int number) {
        Spot spot = new Spot(x, y, kind, number);
        int w = placeFor(state, spot);
        if (w >= 0) change(withWell(state, w, spot));
        return w;
    }

    int fill(int w) {
        if (!state.wells.containsKey(w)) return -1;
        change(withWell(state, w, null));
        return state.wells.size();
    }

    int become(int w, int kind, int number) {
        Spot s = state.wells.get(w);
        if (s == null || !kindAllows(kind, number)) return -1;
        change(withWell(state, w, new Spot(s.x, s.y, kind, number)));
        return s.kind;
    }

    int well(int w, int what) {
        Spot s = state.wells.get(w);
        if (s == null) return -1;
        if (what == 0) return s.x;
        if (what == 1) return s.y;
        if (what == 2) return s.kind;
        return what == 3 ? counts(w) ? 1 : 0 : -1;
    }

    int ask(int w, int as) {
        Spot s = state.wells.get(w);
        if (s == null || as < 0 || as > 3) return -1;
        // rows: kinds; columns: questions; n the number, 0 nought, - refused
        String row = new String[] {"----", "n---", "-n--", "-00-", "-00n"}[s.kind];
        char c = row.charAt(as);
        return c == 'n' ? s.number : c == '0' ? 0 : -2;
    }

    int count(int what) {
        if (what == 0) return state.wells.size();
        if (what == 1) return counting().size();
        return what == 2 ? past.size() : -1;
    }

    // ---- grounds

    private int takenOff(int w) {
        Spot s = state.wells.get(w);
        return s.kind == 1 ? s.number : 0;
    }

    private Frac distance(Point p, int w) {
        Spot s = state.wells.get(w);
        Frac dx = p.x.minus(Frac.of(s.x));
        Frac dy = p.y.minus(Frac.of(s.y));
        return dx.times(dx).plus(dy.times(dy));
    }

    private Frac cost(Point p, int w) {
        return distance(p, w).minus(Frac.of(takenOff(w)));
    }

    private boolean onMap(Point p) {
        return p.x.sign() >= 0 && p.y.sign() >= 0
                && p.x.compareTo(Frac.of(state.wide)) <= 0 && p.y.compareTo(Frac.of(state.high)) <= 0;
    }

    private Point pointOf(int x, int y, int q) {
        if (q < 1 || q > 1000) return null;
        Frac below = Frac.of(q);
        Point p = new Point(Frac.of(x).over(below), Frac.of(y).over(below));
        return onMap(p) ? p : null;
    }

    private boolean served(Point p, int w) {
        Frac own = cost(p, w);
        for (int v : counting()) if (cost(p, v).compareTo(own) < 0) return false;
        return true;
    }

    int serves(int x, int y, int q) {
        Point p = pointOf(x, y, q);
        if (p == null) return -1;
        int bits = 0;
        for (int w : counting()) if (served(p, w)) bits |= 1 << w;
        return bits;
    }

    int next(int x, int y, int q, int k) {
        Point p = pointOf(x, y, q);
        if (p == null) return -1;
        List<Integer> all = counting();
        all.sort(Comparator.comparing((Integer w) -> cost(p, w)).thenComparing(w -> w));
        return k < 0 || k >= all.size() ? -1 : all.get(k);
    }

    private static Frac[] lineOf(long a, long b, long c) {
        return new Frac[] {Frac.of(a), Frac.of(b), Frac.of(c)};
    }

    private List<Frac[]> linesAbout(int w, boolean off) {
        List<Frac[]> lines = new ArrayList<>();
        lines.add(lineOf(1, 0, 0));
        lines.add(lineOf(1, 0, state.wide));
        lines.add(lineOf(0, 1, 0));
        lines.add(lineOf(0, 1, state.high));
        Spot s = state.wells.get(w);
        for (int v : counting()) {
            Spot t = state.wells.get(v);
            if (v == w) continue;
            long c = (long) t.x * t.x + (long) t.y * t.y - (long) s.x * s.x - (long) s.y * s.y;
            if (off) c += takenOff(w) - takenOff(v);
            lines.add(lineOf(2L * (t.x - s.x), 2L * (t.y - s.y), c));
        }
        return lines;
    }

    private static Point crossing(Frac[] l, Frac[] m) {
        Frac d = l[0].times(m[1]).minus(l[1].times(m[0]));
        if (d.sign() == 0) return null;
        Frac x = l[2].times(m[1]).minus(l[1].times(m[2])).over(d);
        Frac y = l[0].times(m[2]).minus(l[2].times(m[0])).over(d);
        return new Point(x, y);
    }

    private static Frac turn(Point a, Point b, Point c) {
        return b.x.minus(a.x).times(c.y.minus(a.y)).minus(b.y.minus(a.y).times(c.x.minus(a.x)));
    }

    private List<Point> ground(int w) {
        return once("ground " + w, () -> findGround(w));
    }

    /** Every point where two lines cross and that w serves is a corner; then they are put in order. */
    private List<Point> findGround(int w) {
        if (!counts(w)) return List.of();
        TreeSet<Point> found = new TreeSet<>();
        List<Frac[]> lines = linesAbout(w, true);
        for (int i = 0; i < lines.size(); i++) {
            for (int j = 0; j < i; j++) {
                Point p = crossing(lines.get(i), lines.get(j));
                if (p != null && onMap(p) && served(p, w)) found.add(p);
            }
        }
        List<Point> ring = new ArrayList<>(found);
        if (ring.size() < 3) return ring;
        Point first = ring.remove(0);
        ring.sort((p, q) -> -turn(first, p, q).sign());
        ring.add(0, first);
        return ring;
    }

    int corners(int w) {
        return state.wells.containsKey(w) ? ground(w).size() : -1;
    }

    long corner(int w, int k, int what) {
        List<Point> ring = ground(w);
        return k < 0 || k >= ring.size() ? -1 : ring.get(k).tell(what);
    }

    private List<Point> shared(int v, int w) {
        if (v == w || !state.wells.containsKey(v) || !state.wells.containsKey(w)) return null;
        TreeSet<Point> both = new TreeSet<>(ground(v));
        both.retainAll(new TreeSet<>(ground(w)));
        return new ArrayList<>(both);
    }

    int beside(int v, int w) {
        List<Point> s = shared(v, w);
        return s == null ? -1 : s.size() > 1 ? 1 : 0;
    }

    int border(int v, int w) {
        List<Point> s = shared(v, w);
        return s == null ? -1 : s.size();
    }

    long end(int v, int w, int k, int what) {
        List<Point> s = shared(v, w);
        return s == null || k < 0 || k >= s.size() ? -1 : s.get(k).tell(what);
    }

    int about(int w) {
        if (!state.wells.containsKey(w)) return -1;
        int bits = 0;
        for (int v : state.wells.keySet()) if (beside(v, w) == 1) bits |= 1 << v;
        return bits;
    }

    // ---- rounds

    private Point middle(int u, int v, int w) {
        List<Frac[]> l = new ArrayList<>();
        Spot s = state.wells.get(u);
        for (int t : new int[] {v, w}) {
            Spot o = state.wells.get(t);
            long c = (long) o.x * o.x + (long) o.y * o.y - (long) s.x * s.x - (long) s.y * s.y;
            l.add(lineOf(2L * (o.x - s.x), 2L * (o.y - s.y), c));
        }
        return crossing(l.get(0), l.get(1));
    }

    private List<Circle> circles() {
        return once("circles", this::findCircles);
    }

    private List<Circle> findCircles() {
        List<Circle> found = new ArrayList<>();
        List<Integer> all = counting();
        for (int u : all) for (int v : all) for (int w : all) {
            if (u >= v || v >= w) continue;
            Point m = middle(u, v, w);
            if (m == null) continue;
            Frac square = distance(m, u);
            int bits = 0;
            boolean empty = true;
            for (int t : all) {
                int c = distance(m, t).compareTo(square);
                if (c < 0) { empty = false; break; }
                if (c == 0) bits |= 1 << t;
            }
            if (!empty) continue;
            boolean known = false;
            for (Circle o : found) known |= o.bits == bits;
            if (!known) found.add(new Circle(m, square, bits));
        }
        found.sort((a, b) -> {
            List<Integer> x = members(a.bits);
            List<Integer> y = members(b.bits);
            for (int i = 0; i < Math.min(x.size(), y.size()); i++) {
                int c = x.get(i).compareTo(y.get(i));
                if (c != 0) return c;
            }
            return Integer.compare(x.size(), y.size());
        });
        return found;
    }

    private static List<Integer> members(int bits) {
        List<Integer> all = new ArrayList<>();
        for (int w = 0; w < 24; w++) if ((bits >> w & 1) == 1) all.add(w);
        return all;
    }

    int rings() {
        return circles().size();
    }

    int ring(int k) {
        List<Circle> all = circles();
        return k < 0 || k >= all.size() ? 0 : all.get(k).bits;
    }

    private static long told(Point p, Frac square, int what) {
        if (what == 4) return square.above.longValueExact();
        if (what == 5) return square.below.longValueExact();
        return p.tell(what);
    }

    long round(int k, int what) {
        List<Circle> all = circles();
        return k < 0 || k >= all.size() ? -1 : told(all.get(k).middle, all.get(k).square, what);
    }

    private TreeSet<Point> candidates() {
        return once("candidates", this::findCandidates);
    }

    /** All rounds' middles, all crossings of the map's sides with borders, and the map's corners. */
    private TreeSet<Point> findCandidates() {
        TreeSet<Point> all = new TreeSet<>();
        for (Circle c : circles()) if (onMap(c.middle)) all.add(c.middle);
        for (int w : counting()) {
            List<Frac[]> lines = linesAbout(w, false);
            for (int i = 0; i < 4; i++) {
                for (Frac[] other : lines) {
                    Point p = crossing(lines.get(i), other);
                    if (p != null && onMap(p)) all.add(p);
                }
            }
        }
        return all;
    }

    long largest(int what) {
        return once("largest " + what, () -> findLargest(what));
    }

    private long findLargest(int what) {
        Point best = null;
        Frac bestSquare = null;
        for (Point p : candidates()) {
            Frac least = null;
            for (int w : counting()) {
                Frac d = distance(p, w);
                if (least == null || d.compareTo(least) < 0) least = d;
            }
            if (best == null || least.compareTo(bestSquare) > 0) {
                best = p;
                bestSquare = least;
            }
        }
        return best == null ? -1 : told(best, bestSquare, what);
    }

    private int square(int v, int w) {
        Spot s = state.wells.get(v);
        Spot t = state.wells.get(w);
        return (s.x - t.x) * (s.x - t.x) + (s.y - t.y) * (s.y - t.y);
    }

    private List<int[]> allPipes() {
        List<int[]> pipes = new ArrayList<>();
        for (int v : counting()) for (int w : counting()) {
            if (v < w) pipes.add(new int[] {v, w, square(v, w)});
        }
        Collections.sort(pipes, (p, q) -> p[2] != q[2] ? Integer.compare(p[2], q[2])
                : p[0] != q[0] ? Integer.compare(p[0], q[0]) : Integer.compare(p[1], q[1]));
        return pipes;
    }

    private static int ofRow(List<int[]> rows, int k, int what) {
        return k < 0 || k >= rows.size() || what < 0 || what > 2 ? -1 : rows.get(k)[what];
    }

    int closest(int what) {
        return ofRow(once("pipes", this::allPipes), 0, what);
    }

    int nearest(int w) {
        if (!counts(w)) return -1;
        int best = -1;
        for (int v : counting()) if (v != w && (best < 0 || square(v, w) < square(best, w))) best = v;
        return best;
    }

    private List<int[]> net() {
        return once("net", this::findNet);
    }

    private List<int[]> findNet() {
        int[] group = new int[24];
        for (int w = 0; w < 24; w++) group[w] = w;
        List<int[]> taken = new ArrayList<>();
        for (int[] p : allPipes()) {
            int from = group[p[0]];
            int to = group[p[1]];
            if (from == to) continue;
            taken.add(p);
            for (int w = 0; w < 24; w++) if (group[w] == from) group[w] = to;
        }
        return taken;
    }

    int tree() {
        return net().size();
    }

    int pipe(int k, int what) {
        return ofRow(net(), k, what);
    }

    private int side(int a, int b, int c) {
        Spot p = state.wells.get(a);
        Spot q = state.wells.get(b);
        Spot r = state.wells.get(c);
        return (q.x - p.x) * (r.y - p.y) - (q.y - p.y) * (r.x - p.x);
    }

    private boolean between(int a, int b, int c) {
        return square(a, c) < square(a, b) && square(b, c) < square(a, b);
    }

    /** Whether the ring goes from a straight to b: all others left of the way, or on it. */
    private boolean isStep(int a, int b) {
        for (int c : counting()) {
            if (c == a || c == b) continue;
            int s = side(a, b, c);
            if (s < 0 || s == 0 && !between(a, b, c)) return false;
        }
        return true;
    }

    private List<Integer> hullRing() {
        return once("hull", this::findHull);
    }

    private List<Integer> findHull() {
        List<Integer> all = counting();
        if (all.isEmpty()) return all;
        all.sort(Comparator.comparing((Integer w) -> state.wells.get(w).x).thenComparing(w -> state.wells.get(w).y));
        List<Integer> ring = new ArrayList<>(List.of(all.get(0)));
        for (int step = 0; step < 24; step++) {
            int at = ring.get(ring.size() - 1);
            for (int b : all) {
                if (b != at && isStep(at, b)) {
                    if (b == ring.get(0)) return ring;
                    ring.add(b);
                    break;
                }
            }
        }
        return ring.subList(0, 1);
    }

    int hull() {
        return hullRing().size();
    }

    int around(int k) {
        List<Integer> ring = hullRing();
        return k < 0 || k >= ring.size() ? -1 : ring.get(k);
    }

    /** Rounds about all wells grow until the corners are covered or parted: the first such size. */
    int keep(int from, int to) {
        List<Integer> all = counting();
        if (from < 0 || from > 3 || to < 0 || to > 3 || from == to || all.isEmpty()) return -1;
        TreeSet<Integer> sizes = new TreeSet<>();
        for (int w : all) {
            for (int s = 0; s < 4; s++) {
                sizes.add(fromSide(w, s));
                sizes.add(fromCorner(w, s));
            }
            for (int v : all) if (v != w) sizes.add(square(v, w));
        }
        for (int size : sizes) if (parted(from, to, size, all)) return size;
        return -2;
    }

    private int fromSide(int w, int side) {
        Spot s = state.wells.get(w);
        int away = side == 0 ? s.y : side == 1 ? state.wide - s.x : side == 2 ? state.high - s.y : s.x;
        return 4 * away * away;
    }

    private int fromCorner(int w, int corner) {
        Spot s = state.wells.get(w);
        int dx = s.x - (corner == 1 || corner == 2 ? state.wide : 0);
        int dy = s.y - (corner == 2 || corner == 3 ? state.high : 0);
        return 4 * (dx * dx + dy * dy);
    }

    /** Whether rounds a little larger than the size part the two corners: flooding from each side. */
    private boolean parted(int from, int to, int size, List<Integer> all) {
        for (int w : all) if (fromCorner(w, from) <= size || fromCorner(w, to) <= size) return true;
        for (int start : all) {
            TreeSet<Integer> flood = new TreeSet<>(List.of(start));
            boolean grew = true;
            while (grew) {
                grew = false;
                for (int v : all) {
                    if (flood.contains(v)) continue;
                    for (int w : flood) {
                        if (square(v, w) <= size) { grew = true; flood.add(v); break; }
                    }
                }
            }
            boolean[] touched = new boolean[4];
            for (int w : flood) for (int s = 0; s < 4; s++) touched[s] |= fromSide(w, s) <= size;
            boolean one = false;
            boolean other = false;
            for (int s = from; s != to; s = (s + 1) % 4) one |= touched[s];
            for (int s = to; s != from; s = (s + 1) % 4) other |= touched[s];
            if (one && other) return true;
        }
        return false;
    }

    // ---- sheets

    boolean sheet(int s, int n) {
        if (s < 0 || s > 7 || n < -1 || n > 8) return false;
        sheets[s] = n < 0 ? null : new Spot[n];
        if (n > 0) Arrays.fill(sheets[s], new Spot(0, 0, 0, 0));
        return true;
    }

    boolean line(int s, int k, int x, int y, int kind, int number) {
        if (s < 0 || s > 7 || sheets[s] == null || k < 0 || k >= sheets[s].length) return false;
        sheets[s][k] = new Spot(x, y, kind, number);
        return true;
    }

    int lay(int s) {
        if (s < 0 || s > 7 || sheets[s] == null) return -1;
        State grown = state;
        for (int k = 0; k < sheets[s].length; k++) {
            int w = placeFor(grown, sheets[s][k]);
            if (w < 0) return -2 - k;
            grown = withWell(grown, w, sheets[s][k]);
        }
        change(grown);
        return sheets[s].length;
    }

    int undo() {
        if (past.isEmpty()) return -1;
        state = past.remove(past.size() - 1);
        known.clear();
        return past.size();
    }
}
