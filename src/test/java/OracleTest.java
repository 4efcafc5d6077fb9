import java.util.Random;

/** Runs of calls, made from fixed seeds, on the class and on the oracle: every answer must be the same. */
public final class OracleTest {
    private static int wrong = 0;
    private static long asked = 0;

    private final Random dice;
    private final WellMap map = new WellMap();
    private final Oracle oracle = new Oracle();
    private final String run;
    private int span;

    private OracleTest(String run, long seed, int span) {
        this.run = run;
        this.dice = new Random(seed);
        this.span = span;
    }

    private void same(String call, long got, long want) {
        asked++;
        if (got != want) {
            wrong++;
            if (wrong <= 40) System.out.println(run + ": " + call + " answered " + got + ", due is " + want);
        }
    }

    private void same(String call, boolean got, boolean want) {
        same(call, got ? 1 : 0, want ? 1 : 0);
    }

    private static String call(String name, int... args) {
        StringBuilder text = new StringBuilder(name).append('(');
        for (int i = 0; i < args.length; i++) text.append(i == 0 ? "" : ", ").append(args[i]);
        return text.append(')').toString();
    }

    private int any(int least, int most) {
        return least + dice.nextInt(most - least + 1);
    }

    private int place() {
        return dice.nextInt(30) == 0 ? any(-2, span + 2) : any(0, span);
    }

    private int kind() {
        return dice.nextInt(25) == 0 ? any(-1, 5) : any(0, 9) < 5 ? 0 : any(0, 4);
    }

    private int number(int kind) {
        if (dice.nextInt(25) == 0) return any(-1, 20);
        if (kind == 1) return dice.nextInt(20) == 0 ? any(999999, 1000001) : any(0, 1 + span * any(0, span) / 2);
        if (kind == 2) return dice.nextInt(20) == 0 ? any(999998, 1000000) : any(0, 999);
        return kind == 4 ? any(1, 15) : 0;
    }

    // ---- changes

    private void change() {
        switch (any(0, 19)) {
            case 0: rectangle(); break;
            case 1: season(); break;
            case 2: case 3: fill(); break;
            case 4: case 5: case 6: become(); break;
            case 7: sheet(); break;
            case 8: case 9: case 10: line(); break;
            case 11: lay(); break;
            case 12: undo(); break;
            default: sink(); break;
        }
    }

    private void rectangle() {
        int w = any(0, 3) == 0 ? any(-1, 1001) : span;
        int h = any(0, 3) == 0 ? any(-1, 1001) : span;
        same(call("rectangle", w, h), map.rectangle(w, h), oracle.rectangle(w, h));
    }

    private void season() {
        int s = any(-1, 4);
        same(call("season", s), map.season(s), oracle.season(s));
    }

    private void sink() {
        int kind = kind();
        sink(place(), place(), kind, number(kind));
    }

    private void sink(int x, int y, int kind, int n) {
        same(call("sink", x, y, kind, n), map.sink(x, y, kind, n), oracle.sink(x, y, kind, n));
    }

    private void fill() {
        int w = any(-1, 24);
        same(call("fill", w), map.fill(w), oracle.fill(w));
    }

    private void become() {
        int w = any(0, 24);
        int kind = kind();
        int n = number(kind);
        same(call("become", w, kind, n), map.become(w, kind, n), oracle.become(w, kind, n));
    }

    private void sheet() {
        int s = any(-1, 8);
        int n = any(-2, 9);
        same(call("sheet", s, n), map.sheet(s, n), oracle.sheet(s, n));
    }

    private void line() {
        int s = any(-1, 8);
        int k = any(-1, 8);
        int kind = kind();
        int x = place();
        int y = place();
        int n = number(kind);
        same(call("line", s, k, x, y, kind, n), map.line(s, k, x, y, kind, n), oracle.line(s, k, x, y, kind, n));
    }

    private void lay() {
        int s = any(-1, 8);
        same(call("lay", s), map.lay(s), oracle.lay(s));
    }

    private void undo() {
        same("undo()", map.undo(), oracle.undo());
    }

    // ---- questions

    private void askState() {
        for (int w = -1; w <= 24; w++) {
            for (int what = -1; what <= 4; what++) {
                same(call("well", w, what), map.well(w, what), oracle.well(w, what));
                same(call("ask", w, what), map.ask(w, what), oracle.ask(w, what));
            }
        }
        for (int what = -1; what <= 3; what++) same(call("count", what), map.count(what), oracle.count(what));
    }

    private void askPoints() {
        for (int i = 0; i < 6; i++) {
            int q = any(0, 9) == 0 ? any(-1, 1001) : any(1, 6);
            int x = any(0, 9) == 0 ? any(-1, 1001001) : any(0, span * Math.max(q, 1));
            int y = any(0, 9) == 0 ? any(-1, 1001001) : any(0, span * Math.max(q, 1));
            int k = any(-1, 6);
            same(call("serves", x, y, q), map.serves(x, y, q), oracle.serves(x, y, q));
            same(call("next", x, y, q, k), map.next(x, y, q, k), oracle.next(x, y, q, k));
        }
    }

    private void askGround(int w) {
        int n = map.corners(w);
        same(call("corners", w), n, oracle.corners(w));
        same(call("about", w), map.about(w), oracle.about(w));
        int k = any(-1, Math.max(n, 0));
        int what = any(-1, 4);
        same(call("corner", w, k, what), map.corner(w, k, what), oracle.corner(w, k, what));
        for (int j = 0; j < n; j++) {
            for (int e = 0; e < 4; e++) same(call("corner", w, j, e), map.corner(w, j, e), oracle.corner(w, j, e));
        }
    }

    private void askBorder(int v, int w) {
        int n = map.border(v, w);
        same(call("border", v, w), n, oracle.border(v, w));
        same(call("beside", v, w), map.beside(v, w), oracle.beside(v, w));
        int k = any(-1, 2);
        int what = any(-1, 4);
        same(call("end", v, w, k, what), map.end(v, w, k, what), oracle.end(v, w, k, what));
        for (int j = 0; j < n; j++) {
            for (int e = 0; e < 4; e++) same(call("end", v, w, j, e), map.end(v, w, j, e), oracle.end(v, w, j, e));
        }
    }

    private void askRounds() {
        int n = map.rings();
        same("rings()", n, oracle.rings());
        for (int k = -1; k <= n; k++) same(call("ring", k), map.ring(k), oracle.ring(k));
        for (int i = 0; i < 4; i++) {
            int k = any(-1, n);
            int what = any(-1, 6);
            same(call("round", k, what), map.round(k, what), oracle.round(k, what));
        }
        for (int what = -1; what <= 6; what++) {
            same(call("largest", what), map.largest(what), oracle.largest(what));
        }
    }

    private void askNets() {
        for (int what = -1; what <= 3; what++) same(call("closest", what), map.closest(what), oracle.closest(what));
        for (int w = -1; w <= 24; w++) same(call("nearest", w), map.nearest(w), oracle.nearest(w));
        int n = map.tree();
        same("tree()", n, oracle.tree());
        for (int k = -1; k <= n; k++) {
            for (int what = -1; what <= 3; what++) {
                same(call("pipe", k, what), map.pipe(k, what), oracle.pipe(k, what));
            }
        }
        int m = map.hull();
        same("hull()", m, oracle.hull());
        for (int k = -1; k <= m; k++) same(call("around", k), map.around(k), oracle.around(k));
        for (int from = -1; from <= 4; from++) {
            for (int to = -1; to <= 4; to++) same(call("keep", from, to), map.keep(from, to), oracle.keep(from, to));
        }
    }

    private void askAll(int grounds) {
        askState();
        askPoints();
        askRounds();
        askNets();
        for (int i = 0; i < grounds; i++) {
            askGround(any(-1, 24));
            askBorder(any(-1, 24), any(-1, 24));
        }
    }

    private void askEverything() {
        askAll(0);
        for (int w = -1; w <= 24; w++) askGround(w);
        for (int v = 0; v < 24; v++) for (int w = 0; w < 24; w++) askBorder(v, w);
    }

    // ---- runs

    private void mixed(int changes) {
        same(call("rectangle", span, span), map.rectangle(span, span), oracle.rectangle(span, span));
        for (int i = 0; i < changes; i++) {
            change();
            askState();
            if (i % 7 == 6) askAll(3);
        }
        askAll(6);
    }

    /** Many changes, few questions: the wells, the sheets and what can be taken back. */
    private void changesAlone(int changes) {
        same(call("rectangle", span, span), map.rectangle(span, span), oracle.rectangle(span, span));
        for (int i = 0; i < changes; i++) {
            if (dice.nextInt(6) == 0) undo(); else change();
            askState();
        }
    }

    private void full(int wells, int deep) {
        same(call("rectangle", span, span), map.rectangle(span, span), oracle.rectangle(span, span));
        for (int i = 0; i < 2000 && map.count(0) < wells; i++) {
            int off = deep == 0 ? 0 : any(0, deep);
            sink(any(0, span), any(0, span), deep > 0 ? 1 : 0, off);
        }
    }

    /** Twenty-four wells on one round of radius 325, so that one ring has them all. */
    private void oneRound() {
        same("rectangle(1000, 1000)", map.rectangle(1000, 1000), oracle.rectangle(1000, 1000));
        for (int x = -325, n = 0; x <= 325 && n < 24; x++) {
            for (int y = -325; y <= 325 && n < 24; y++) {
                if (x * x + y * y == 325 * 325 && any(0, 1) == 0) {
                    sink(500 + x, 500 + y, 0, 0);
                    n++;
                }
            }
        }
    }

    private void onOneLine() {
        same("rectangle(1000, 1000)", map.rectangle(1000, 1000), oracle.rectangle(1000, 1000));
        int dx = any(0, 40);
        int dy = dx == 0 ? 1 : any(0, 40);
        for (int i = 0; i < 24; i++) {
            int k = any(0, 23);
            sink(k * dx, k * dy, any(0, 1), 0);
        }
    }

    private void lattice() {
        same("rectangle(12, 12)", map.rectangle(12, 12), oracle.rectangle(12, 12));
        for (int i = 0; i < 40; i++) sink(any(0, 4) * 3, any(0, 4) * 3, 0, 0);
    }

    public static void main(String[] args) {
        int more = args.length > 0 ? Integer.parseInt(args[0]) : 1;
        long shift = args.length > 1 ? Long.parseLong(args[1]) : 0;
        for (int s = 0; s < 12 * more; s++) new OracleTest("mixed " + s, shift + s, 3 + s % 10).mixed(60);
        for (int s = 0; s < 6 * more; s++) new OracleTest("wide " + s, shift + 100 + s, 20 + 190 * (s % 6)).mixed(60);
        for (int s = 0; s < 60 * more; s++) new OracleTest("changes " + s, shift + 200 + s, 4 + s % 9).changesAlone(400);
        for (int s = 0; s < 6 * more; s++) {
            OracleTest t = new OracleTest("full " + s, shift + 300 + s, s % 2 == 0 ? 1000 : 7);
            t.full(24, s % 3 == 0 ? 0 : s % 3 == 1 ? 30 : 1000000);
            t.askEverything();
        }
        for (int s = 0; s < 3 * more; s++) {
            OracleTest t = new OracleTest("one round " + s, shift + 400 + s, 1000);
            t.oneRound();
            t.askAll(4);
            OracleTest l = new OracleTest("on one line " + s, shift + 500 + s, 1000);
            l.onOneLine();
            l.askAll(12);
            OracleTest g = new OracleTest("lattice " + s, shift + 600 + s, 12);
            g.lattice();
            g.askAll(12);
        }
        System.out.println(asked + " answers, " + (wrong == 0 ? "all as due" : wrong + " not as due"));
        if (wrong != 0) System.exit(1);
    }
}
