import java.util.Arrays;
import java.util.function.Consumer;
import java.util.function.ToLongFunction;

/**
 * All that can be seen of a map: what it answers now, after each undo that can be, and once each sheet is laid. It is
 * taken on maps made anew by the same calls, so that none of them is asked more than 512 times and taking it spoils nothing.
 */
final class Picture {
    private static final int VIEWS = 1 + 9 + 8;

    private final String name;
    private final Consumer<WellMap> build;
    private final long[][] before = new long[VIEWS][];

    Picture(String name, Consumer<WellMap> build) {
        this.name = name;
        this.build = build;
        for (int v = 0; v < VIEWS; v++) before[v] = view(made(), v);
    }

    WellMap made() {
        WellMap m = new WellMap();
        build.accept(m);
        return m;
    }

    /** The call gives this answer, and leaves all as it was. */
    void unchangedBy(String call, ToLongFunction<WellMap> asked, long want) {
        for (int v = 0; v < VIEWS; v++) {
            WellMap m = made();
            Edges.due(name + ": " + call, asked.applyAsLong(m), want);
            int at = Arrays.mismatch(view(m, v), before[v]);
            Edges.due(name + ": first that differs after " + call + ", view " + v, at, -1);
        }
    }

    private static long[] view(WellMap m, int v) {
        long[] seen = new long[512];
        int n = 0;
        if (v >= 1 && v <= 9) for (int i = 0; i < v; i++) seen[n++] = m.undo();
        if (v > 9) seen[n++] = m.lay(v - 10);
        for (int what = 0; what < 3; what++) seen[n++] = m.count(what);
        seen[n++] = widest(m, true);
        seen[n++] = widest(m, false);
        for (int w = 0; w < 24; w++) {
            seen[n++] = m.corners(w);
            for (int what = 0; what < 4; what++) seen[n++] = m.well(w, what);
            for (int as = 0; as < 4; as++) seen[n++] = m.ask(w, as);
        }
        for (int what = 0; what < 6; what++) seen[n++] = m.largest(what);
        seen[n++] = m.rings();
        seen[n++] = m.ring(0);
        seen[n++] = m.hull();
        seen[n++] = m.tree();
        seen[n++] = m.closest(2);
        seen[n++] = m.keep(0, 2);
        seen[n++] = m.season(0);
        return seen;
    }

    /** The largest whole x, or y, on the map, found by halving. */
    private static int widest(WellMap m, boolean across) {
        int on = 0;
        int off = 1024;
        while (off - on > 1) {
            int half = (on + off) / 2;
            if (m.serves(across ? half : 0, across ? 0 : half, 1) != WellMap.NONE) on = half; else off = half;
        }
        return on;
    }
}
