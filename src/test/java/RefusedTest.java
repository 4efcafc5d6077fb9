import java.util.function.ToLongFunction;

/**
 * A refused call changes nothing, and no question changes anything: for each call with arguments at the ends of int
 * and just beyond each bound, in maps that are empty, ordinary, full, and without wells that count.
 */
public final class RefusedTest extends Edges {
    private static final int[] ENDS = {LEAST, LEAST + 1, -1, MOST - 1, MOST};

    private static int asked = 0;

    // ---- the maps

    private static void ordinary(WellMap m) {
        m.rectangle(40, 30);
        m.sink(3, 4, 0, 0);
        m.sink(30, 4, 1, 50);
        m.sink(13, 24, 2, 777);
        m.sink(20, 10, 3, 0);
        m.sink(8, 28, 4, 6);
        m.season(2);
        m.fill(0);
        m.sheet(0, 2);
        m.line(0, 0, 1, 1, 1, 9);
        m.line(0, 1, 2, 1, 0, 0);
        m.sheet(5, 3);
        m.line(5, 1, 2, 1, 0, 0);
        m.line(5, 2, 41, 1, 0, 0);
        m.sheet(7, 0);
    }

    private static void full(WellMap m) {
        m.rectangle(1000, 1000);
        for (int w = 0; w < 24; w++) m.sink(w * 211 % 1001, w * 433 % 1001, w % 5, w % 5 == 4 ? 15 : 0);
        for (int s = 0; s < 8; s++) {
            m.sheet(s, 8);
            for (int k = 0; k < 8; k++) m.line(s, k, 7 * k + 1, s + 3, 1, k);
        }
        m.season(3);
    }

    private static void noneCounts(WellMap m) {
        m.sink(5, 5, 3, 0);
        m.sink(60, 70, 4, 7);
        m.season(3);
        m.sheet(3, 1);
    }

    /** The map's greatest x and y, its first well's place, and how many wells there are, as far as a test needs them. */
    private record About(Picture picture, int wide, int high, int first, boolean isFull, boolean isEmpty) {
        void refused(String call, ToLongFunction<WellMap> asks, long want) {
            asked++;
            picture.unchangedBy(call, asks, want);
        }

        void question(ToLongFunction<WellMap> asks) {
            asked++;
            picture.unchangedBy("a question", asks, asks.applyAsLong(picture.made()));
        }
    }

    private static long is(boolean answer) {
        return answer ? 1 : 0;
    }

    // ---- refused changes

    private static void rectangle(About a) {
        for (int odd : new int[] {0, -1, 1001, LEAST, MOST, LEAST + 100}) {
            a.refused("rectangle " + odd, m -> is(m.rectangle(odd, a.high)), 0);
            a.refused("rectangle " + odd, m -> is(m.rectangle(a.wide, odd)), 0);
        }
        if (!a.isEmpty) {
            a.refused("rectangle 1 1", m -> is(m.rectangle(1, 1)), 0);
            WellMap made = a.picture.made();
            int x = made.well(a.first, 0);
            int y = made.well(a.first, 1);
            if (x > 1) a.refused("rectangle too small by one", m -> is(m.rectangle(x - 1, a.high)), 0);
            if (y > 1) a.refused("rectangle too small by one", m -> is(m.rectangle(a.wide, y - 1)), 0);
        }
    }

    private static void season(About a) {
        for (int odd : new int[] {-1, 4, 5, LEAST, MOST, 32}) a.refused("season " + odd, m -> m.season(odd), -1);
    }

    private static void sink(About a) {
        int[][] cant = {
            {-1, 1, 0, 0}, {a.wide + 1, 1, 0, 0}, {LEAST, 1, 0, 0}, {MOST, 1, 0, 0}, {1, -1, 0, 0}, {1, a.high + 1, 0, 0},
            {1, LEAST, 0, 0}, {1, MOST, 0, 0}, {1, 1, -1, 0}, {1, 1, 5, 0}, {1, 1, LEAST, 0}, {1, 1, MOST, 0}, {1, 1, 0, 1},
            {1, 1, 0, -1}, {1, 1, 1, -1}, {1, 1, 1, 1000001}, {1, 1, 2, -1}, {1, 1, 2, 1000000}, {1, 1, 3, 1}, {1, 1, 3, -1},
            {1, 1, 4, 0}, {1, 1, 4, 16}, {1, 1, 4, LEAST}, {1, 1, 1, MOST}, {LEAST, LEAST, LEAST, LEAST}};
        for (int[] c : cant) a.refused("sink", m -> m.sink(c[0], c[1], c[2], c[3]), -1);
        if (!a.isEmpty) {
            WellMap made = a.picture.made();
            int x = made.well(a.first, 0);
            int y = made.well(a.first, 1);
            a.refused("sink where one is", m -> m.sink(x, y, 0, 0), -2);
        }
        if (a.isFull) a.refused("sink a 25th", m -> m.sink(1, 1, 0, 0), -3);
    }

    private static void fillAndBecome(About a) {
        WellMap made = a.picture.made();
        for (int w = -2; w < 26; w++) {
            int none = w;
            if (made.well(w, 0) >= 0) continue;
            a.refused("fill " + w, m -> m.fill(none), -1);
            a.refused("become " + w, m -> m.become(none, 0, 0), -1);
        }
        for (int odd : ENDS) {
            a.refused("fill " + odd, m -> m.fill(odd), -1);
            a.refused("become " + odd, m -> m.become(odd, 0, 0), -1);
        }
        int[][] cant = {{-1, 0}, {5, 0}, {LEAST, 0}, {MOST, 0}, {0, 1}, {0, -1}, {1, -1}, {1, 1000001}, {2, -1}, {2, 1000000},
            {3, 1}, {4, 0}, {4, 16}, {4, MOST}, {1, LEAST}};
        for (int[] c : cant) a.refused("become", m -> m.become(a.first, c[0], c[1]), -1);
    }

    private static void sheets(About a) {
        for (int odd : new int[] {-1, 8, LEAST, MOST, 32}) {
            a.refused("sheet " + odd, m -> is(m.sheet(odd, 1)), 0);
            a.refused("line of sheet " + odd, m -> is(m.line(odd, 0, 1, 1, 0, 0)), 0);
            a.refused("lay " + odd, m -> m.lay(odd), -1);
            a.refused("line " + odd, m -> is(m.line(0, odd, 1, 1, 0, 0)), 0);
        }
        for (int s = 0; s < 8; s++) {
            int at = s;
            for (int odd : new int[] {-2, 9, LEAST, MOST}) a.refused("sheet of " + odd, m -> is(m.sheet(at, odd)), 0);
            a.refused("line 8", m -> is(m.line(at, 8, 1, 1, 0, 0)), 0);
            int laid = a.picture.made().lay(s);
            if (laid < 0) a.refused("lay " + s, m -> m.lay(at), laid);
            if (laid == -1) a.refused("line of a missing sheet", m -> is(m.line(at, 0, 1, 1, 0, 0)), 0);
        }
    }

    private static void undo(About a) {
        if (a.picture.made().count(2) == 0) a.refused("undo", WellMap::undo, -1);
    }

    // ---- questions

    private static void questions(About a) {
        int[] some = {LEAST, -1, 0, 1, 2, 4, 23, 24, MOST};
        for (int v : some) {
            a.question(m -> m.count(v));
            a.question(m -> m.corners(v));
            a.question(m -> m.about(v));
            a.question(m -> m.ring(v));
            a.question(m -> m.largest(v));
            a.question(m -> m.closest(v));
            a.question(m -> m.nearest(v));
            a.question(m -> m.around(v));
            for (int w : some) {
                a.question(m -> m.well(v, w));
                a.question(m -> m.ask(v, w));
                a.question(m -> m.beside(v, w));
                a.question(m -> m.border(v, w));
                a.question(m -> m.round(v, w));
                a.question(m -> m.pipe(v, w));
                a.question(m -> m.keep(v, w));
                a.question(m -> m.corner(v, w, 1));
                a.question(m -> m.end(v, w, 0, 1));
                a.question(m -> m.serves(v, w, 1));
                a.question(m -> m.next(v, w, 1, 0));
            }
        }
        a.question(WellMap::rings);
        a.question(WellMap::tree);
        a.question(WellMap::hull);
    }

    private static void all(About a) {
        rectangle(a);
        season(a);
        sink(a);
        fillAndBecome(a);
        sheets(a);
        undo(a);
        questions(a);
    }

    public static void main(String[] args) {
        all(new About(new Picture("empty", m -> { }), 100, 100, 0, false, true));
        all(new About(new Picture("ordinary", RefusedTest::ordinary), 40, 30, 1, false, false));
        all(new About(new Picture("full", RefusedTest::full), 1000, 1000, 23, true, false));
        all(new About(new Picture("none that counts", RefusedTest::noneCounts), 100, 100, 1, false, false));
        System.out.println(asked + " calls leave all as it was");
        finish();
    }
}
