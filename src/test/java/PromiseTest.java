/** Answers worked out by hand, promise by promise: ordinary inputs, the edges that the document names, wrong inputs. */
public final class PromiseTest {
    private static final int LEAST = Integer.MIN_VALUE;
    private static final int MOST = Integer.MAX_VALUE;

    private static int wrong = 0;
    private static int promise = 0;

    private static void due(String what, long got, long want) {
        if (got != want) {
            wrong++;
            System.out.println("promise " + promise + ": " + what + " answered " + got + ", due is " + want);
        }
    }

    private static void due(String what, boolean got, boolean want) {
        due(what, got ? 1 : 0, want ? 1 : 0);
    }

    /** A map with wells of kind 0 at the places given, x and y in turn. */
    private static WellMap with(int wide, int high, int... places) {
        WellMap m = new WellMap();
        due("rectangle", m.rectangle(wide, high), true);
        for (int i = 0; i < places.length; i += 2) due("sink", m.sink(places[i], places[i + 1], 0, 0), i / 2);
        return m;
    }

    private static void dueCorner(WellMap m, int w, int k, long... want) {
        for (int what = 0; what < 4; what++) due("corner " + w + " " + k + " " + what, m.corner(w, k, what), want[what]);
    }

    private static void dueEnd(WellMap m, int v, int w, int k, long... want) {
        for (int what = 0; what < 4; what++) due("end " + v + " " + w + " " + k + " " + what, m.end(v, w, k, what), want[what]);
    }

    private static void dueRound(WellMap m, int k, long... want) {
        for (int what = 0; what < 6; what++) due("round " + k + " " + what, m.round(k, what), want[what]);
    }

    private static void dueLargest(WellMap m, long... want) {
        for (int what = 0; what < 6; what++) due("largest " + what, m.largest(what), want[what]);
    }

    private static void duePipe(WellMap m, int k, int... want) {
        for (int what = 0; what < 3; what++) due("pipe " + k + " " + what, m.pipe(k, what), want[what]);
    }

    private static void promise1() {
        WellMap m = new WellMap();
        due("count 0", m.count(0), 0);
        due("count 1", m.count(1), 0);
        due("count 2", m.count(2), 0);
        due("season was 0", m.season(0), 0);
        for (int s = 0; s < 8; s++) due("sheet missing", m.lay(s), -1);
        due("100 100 is on it", m.serves(100, 100, 1), 0);
        due("101 0 is not", m.serves(101, 0, 1), -1);
        due("0 101 is not", m.serves(0, 101, 1), -1);
        for (int w = 0; w < 24; w++) due("no well", m.well(w, 0), -1);
        due("NONE", WellMap.NONE, -1);
        WellMap first = new WellMap();
        due("corners before", first.corners(0), -1);
        due("hull before", first.hull(), 0);
        due("largest before", first.largest(4), -1);
        first.sink(50, 50, 0, 0);
        due("corners after", first.corners(0), 4);
        due("hull after", first.hull(), 1);
        due("largest after", first.largest(4), 5000);
        WellMap fresh = new WellMap();
        fresh.sink(50, 50, 0, 0);
        due("corners at once", fresh.corners(0), 4);
        due("hull at once", fresh.hull(), 1);
        due("largest at once", fresh.largest(4), 5000);
    }

    private static void promise2() {
        WellMap m = new WellMap();
        due("1 1", m.rectangle(1, 1), true);
        due("1000 1000", m.rectangle(1000, 1000), true);
        due("0 5", m.rectangle(0, 5), false);
        due("5 0", m.rectangle(5, 0), false);
        due("1001 5", m.rectangle(1001, 5), false);
        due("5 1001", m.rectangle(5, 1001), false);
        due("least", m.rectangle(LEAST, MOST), false);
        due("two changes", m.count(2), 2);
        due("still 1000", m.serves(1000, 1000, 1), 0);
        m.sink(30, 40, 3, 0);
        due("a dry well stays on it", m.rectangle(29, 50), false);
        due("and not above it", m.rectangle(50, 39), false);
        due("on the rim", m.rectangle(30, 40), true);
        due("its wells stay", m.well(0, 1), 40);
        due("same again is a change", m.rectangle(30, 40), true);
        due("changes", m.count(2), 5);
        due("not high enough", m.serves(0, 41, 1), -1);
        due("not wide enough", m.serves(31, 0, 1), -1);
    }

    private static void promise3() {
        WellMap m = new WellMap();
        m.sink(1, 1, 4, 1 + 8);
        due("0", m.season(0), 0);
        due("counts in 0", m.count(1), 1);
        due("1", m.season(1), 0);
        due("not in 1", m.count(1), 0);
        due("2", m.season(2), 1);
        due("not in 2", m.count(1), 0);
        due("3", m.season(3), 2);
        due("counts in 3", m.count(1), 1);
        due("4", m.season(4), -1);
        due("-1", m.season(-1), -1);
        due("least", m.season(LEAST), -1);
        due("most", m.season(MOST), -1);
        due("it was still 3", m.season(0), 3);
        due("no change to take back", m.count(2), 1);
    }

    private static void promise4() {
        WellMap m = new WellMap();
        due("first", m.sink(0, 0, 0, 0), 0);
        due("in the corner", m.sink(100, 100, 1, 1000000), 1);
        due("word", m.sink(1, 0, 2, 999999), 2);
        due("dry", m.sink(2, 0, 3, 0), 3);
        due("seasonal", m.sink(3, 0, 4, 15), 4);
        due("the least numbers", m.sink(4, 0, 1, 0), 5);
        due("the least word", m.sink(5, 0, 2, 0), 6);
        due("the first season", m.sink(6, 0, 4, 1), 7);
        due("taken", m.sink(2, 0, 0, 0), -2);
        due("off to the left", m.sink(-1, 0, 0, 0), -1);
        due("below", m.sink(0, -1, 0, 0), -1);
        due("off to the right", m.sink(101, 0, 0, 0), -1);
        due("above", m.sink(0, 101, 0, 0), -1);
        due("kind -1", m.sink(9, 9, -1, 0), -1);
        due("kind 5", m.sink(9, 9, 5, 0), -1);
        due("kind most", m.sink(9, 9, MOST, 0), -1);
        due("number of 0", m.sink(9, 9, 0, 1), -1);
        due("deep -1", m.sink(9, 9, 1, -1), -1);
        due("deep too much", m.sink(9, 9, 1, 1000001), -1);
        due("word -1", m.sink(9, 9, 2, -1), -1);
        due("word too long", m.sink(9, 9, 2, 1000000), -1);
        due("number of dry", m.sink(9, 9, 3, 1), -1);
        due("no season", m.sink(9, 9, 4, 0), -1);
        due("season 16", m.sink(9, 9, 4, 16), -1);
        due("can't be goes before taken", m.sink(0, 0, 0, 1), -1);
        due("eight changes", m.count(2), 8);
        m.fill(1);
        m.fill(3);
        due("least free", m.sink(50, 50, 0, 0), 1);
        due("then the other", m.sink(51, 50, 0, 0), 3);
        due("then the end", m.sink(52, 50, 0, 0), 8);
        for (int w = 9; w < 24; w++) due("more", m.sink(w, 60, 0, 0), w);
        due("24", m.sink(9, 9, 0, 0), -3);
        due("taken goes before 24", m.sink(0, 0, 0, 0), -2);
        due("can't be goes before 24", m.sink(0, 0, 5, 0), -1);
        due("24 wells", m.count(0), 24);
    }

    private static void promise5() {
        WellMap m = with(10, 10, 1, 1, 2, 2, 3, 3);
        due("three", m.fill(3), -1);
        due("-1", m.fill(-1), -1);
        due("24", m.fill(24), -1);
        due("least", m.fill(LEAST), -1);
        due("one", m.fill(1), 2);
        due("gone", m.well(1, 0), -1);
        due("again", m.fill(1), -1);
        due("others keep their numbers", m.well(2, 0), 3);
        due("place is free", m.sink(2, 2, 0, 0), 1);
        m.become(0, 3, 0);
        due("dry ones are left too", m.fill(2), 2);
        due("and", m.fill(0), 1);
        due("last", m.fill(1), 0);
    }

    private static void promise6() {
        WellMap m = with(10, 10, 1, 1);
        int before = m.count(2);
        due("deep", m.become(0, 1, 1000000), 0);
        due("marked", m.become(0, 2, 999999), 1);
        due("dry", m.become(0, 3, 0), 2);
        due("seasonal", m.become(0, 4, 15), 3);
        due("plain", m.become(0, 0, 0), 4);
        due("none such", m.become(1, 0, 0), -1);
        due("-1", m.become(-1, 0, 0), -1);
        due("24", m.become(24, 0, 0), -1);
        due("number of 0", m.become(0, 0, 1), -1);
        due("too deep", m.become(0, 1, 1000001), -1);
        due("word", m.become(0, 2, 1000000), -1);
        due("number of dry", m.become(0, 3, 7), -1);
        due("no season", m.become(0, 4, 0), -1);
        due("season 16", m.become(0, 4, 16), -1);
        due("kind 5", m.become(0, 5, 0), -1);
        due("kind -1", m.become(0, -1, 0), -1);
        due("the same is a change", m.become(0, 0, 0), 0);
        due("changes", m.count(2), before + 6);
        due("stays in place", m.well(0, 0), 1);
    }

    private static void promise7() {
        WellMap m = new WellMap();
        m.sink(7, 9, 4, 2);
        due("x", m.well(0, 0), 7);
        due("y", m.well(0, 1), 9);
        due("kind", m.well(0, 2), 4);
        due("counts not", m.well(0, 3), 0);
        m.season(1);
        due("counts", m.well(0, 3), 1);
        m.become(0, 3, 0);
        due("dry", m.well(0, 3), 0);
        m.become(0, 2, 5);
        due("marked", m.well(0, 3), 1);
        m.become(0, 1, 5);
        due("deep", m.well(0, 3), 1);
        m.become(0, 0, 0);
        due("plain", m.well(0, 3), 1);
        due("4", m.well(0, 4), -1);
        due("-1", m.well(0, -1), -1);
        due("none such", m.well(1, 0), -1);
        due("24", m.well(24, 0), -1);
        due("least", m.well(LEAST, 0), -1);
    }

    private static void promise8() {
        int[][] numbers = {{0, 0}, {1, 44}, {2, 55}, {3, 0}, {4, 6}};
        int[][] want = {{-2, -2, -2, -2}, {44, -2, -2, -2}, {-2, 55, -2, -2}, {-2, 0, 0, -2}, {-2, 0, 0, 6}};
        for (int kind = 0; kind < 5; kind++) {
            WellMap m = new WellMap();
            m.sink(7, 9, kind, numbers[kind][1]);
            for (int as = 0; as < 4; as++) due("kind " + kind + " as " + as, m.ask(0, as), want[kind][as]);
            due("as 4", m.ask(0, 4), -1);
            due("as -1", m.ask(0, -1), -1);
            due("none such", m.ask(1, 0), -1);
            due("-1", m.ask(-1, 0), -1);
            due("24", m.ask(24, 0), -1);
        }
    }

    private static void promise9() {
        WellMap m = with(10, 10, 1, 1, 2, 2, 3, 3);
        m.become(0, 3, 0);
        m.become(1, 4, 8);
        due("wells", m.count(0), 3);
        due("count", m.count(1), 1);
        due("changes", m.count(2), 6);
        due("3", m.count(3), -1);
        due("-1", m.count(-1), -1);
        m.season(3);
        due("count in 3", m.count(1), 2);
        for (int i = 0; i < 5; i++) m.rectangle(10, 10);
        due("eight at most", m.count(2), 8);
        m.undo();
        due("less", m.count(2), 7);
    }

    private static void promise10() {
        WellMap m = with(10, 10, 2, 5, 8, 5);
        due("left", m.serves(4, 5, 1), 1);
        due("right", m.serves(6, 5, 1), 2);
        due("both", m.serves(5, 0, 1), 3);
        due("on the left side", m.serves(0, 7, 1), 1);
        due("on the lower side", m.serves(17, 0, 2), 2);
        due("up and down", with(10, 10, 5, 2, 5, 8).serves(9, 11, 2), 2);
        due("down and up", with(10, 10, 5, 2, 5, 8).serves(19, 9, 2), 1);
        due("thousandths, left", m.serves(4999, 0, 1000), 1);
        due("thousandths, both", m.serves(5000, 0, 1000), 3);
        due("thousandths, right", m.serves(5001, 10000, 1000), 2);
        due("corner", m.serves(10000, 10000, 1000), 2);
        due("beyond it", m.serves(10001, 0, 1000), -1);
        due("above it", m.serves(0, 10001, 1000), -1);
        due("x below 0", m.serves(-1, 0, 1), -1);
        due("y below 0", m.serves(0, -1, 1), -1);
        due("q 0", m.serves(0, 0, 0), -1);
        due("q -1", m.serves(0, 0, -1), -1);
        due("q 1001", m.serves(0, 0, 1001), -1);
        due("q least", m.serves(LEAST, LEAST, LEAST), -1);
        m.become(0, 1, 12);
        due("deep moves the border to 6", m.serves(6, 5, 1), 3);
        due("and not farther", m.serves(6001, 5000, 1000), 2);
        m.become(0, 3, 0);
        due("dry serves none", m.serves(2, 5, 1), 2);
        m.become(1, 4, 2);
        due("none counts", m.serves(2, 5, 1), 0);
        due("no such point goes first", m.serves(11, 5, 1), -1);
    }

    private static void promise11() {
        WellMap m = with(1000, 1000, 0, 0, 10, 0, 20, 0, 1000, 1000);
        due("k 0", m.next(10, 0, 1, 0), 1);
        due("same cost, lesser number", m.next(10, 0, 1, 1), 0);
        due("then the other", m.next(10, 0, 1, 2), 2);
        due("far", m.next(10, 0, 1, 3), 3);
        due("k 4", m.next(10, 0, 1, 4), -1);
        due("k -1", m.next(10, 0, 1, -1), -1);
        due("fractions", m.next(15001, 0, 1000, 0), 2);
        due("fractions, even", m.next(15000, 0, 1000, 0), 1);
        m.become(3, 1, 1000000);
        due("deep", m.next(1000000, 999999, 1000, 0), 3);
        due("deep from afar", m.next(20, 0, 1, 3), 3);
        m.become(1, 3, 0);
        due("dry is left out", m.next(10, 0, 1, 0), 0);
        due("no such point", m.next(1001, 0, 1, 0), -1);
        due("q 0", m.next(0, 0, 0, 0), -1);
        due("q 1001", m.next(0, 0, 1001, 0), -1);
        due("without wells", new WellMap().next(0, 0, 1, 0), -1);
    }

    private static void promise12() {
        WellMap m = with(10, 10, 5, 5);
        due("all the map", m.corners(0), 4);
        due("none such", m.corners(1), -1);
        due("-1", m.corners(-1), -1);
        due("24", m.corners(24), -1);
        m.become(0, 3, 0);
        due("dry", m.corners(0), 0);
        WellMap t = with(10, 10, 0, 0, 10, 10);
        due("half", t.corners(0), 3);
        due("other half", t.corners(1), 3);
        t.become(0, 1, 200);
        due("only the corner is left", t.corners(1), 1);
        dueCorner(t, 1, 0, 10, 1, 10, 1);
        due("and shared", t.border(0, 1), 1);
        t.become(0, 1, 201);
        due("nothing is left", t.corners(1), 0);
        WellMap p = with(10, 10, 5, 0, 5, 10, 0, 5);
        p.become(0, 1, 100);
        due("a piece of the rim", p.corners(1), 2);
        p.become(2, 1, 150);
        due("wholly others'", p.corners(1), 0);
        p.become(2, 1, 75);
        due("a part of the piece", p.corners(1), 2);
        dueCorner(p, 1, 0, 15, 2, 10, 1);
        dueCorner(p, 1, 1, 10, 1, 10, 1);
        p.become(2, 1, 100);
        due("its end alone", p.corners(1), 1);
        dueCorner(p, 1, 0, 10, 1, 10, 1);
    }

    private static void promise13() {
        WellMap m = with(10, 10, 2, 5, 9, 5);
        dueCorner(m, 0, 0, 0, 1, 0, 1);
        dueCorner(m, 0, 1, 11, 2, 0, 1);
        dueCorner(m, 0, 2, 11, 2, 10, 1);
        dueCorner(m, 0, 3, 0, 1, 10, 1);
        dueCorner(m, 1, 0, 11, 2, 0, 1);
        dueCorner(m, 1, 3, 11, 2, 10, 1);
        due("k 4", m.corner(0, 4, 0), -1);
        due("k -1", m.corner(0, -1, 0), -1);
        due("k most", m.corner(0, MOST, 0), -1);
        due("what 4", m.corner(0, 0, 4), -1);
        due("what -1", m.corner(0, 0, -1), -1);
        due("none such", m.corner(2, 0, 0), -1);
        due("24", m.corner(24, 0, 0), -1);
        m.become(0, 3, 0);
        due("dry", m.corner(0, 0, 0), -1);
        WellMap f = with(10, 10, 0, 0, 3, 1, 1, 4);
        dueCorner(f, 0, 0, 0, 1, 0, 1);
        dueCorner(f, 0, 1, 5, 3, 0, 1);
        dueCorner(f, 0, 2, 23, 22, 41, 22);
        dueCorner(f, 0, 3, 0, 1, 17, 8);
    }

    private static void promise14() {
        WellMap m = with(10, 10, 0, 0, 10, 0, 0, 10, 10, 10);
        due("sides", m.beside(0, 1), 1);
        due("sides, other way", m.beside(2, 0), 1);
        due("a point is not enough", m.beside(0, 3), 0);
        due("itself", m.beside(0, 0), -1);
        due("none such", m.beside(0, 4), -1);
        due("none such first", m.beside(4, 0), -1);
        due("-1", m.beside(-1, 24), -1);
        m.become(1, 1, 2);
        due("deep ones part them", m.beside(0, 3), 0);
        due("point gone", m.border(0, 3), 0);
        due("and join these", m.beside(1, 2), 1);
        m.become(1, 3, 0);
        due("dry", m.beside(0, 1), 0);
        due("dry first", m.beside(1, 0), 0);
        due("now they touch", m.beside(0, 3), 1);
    }

    private static void promise15() {
        WellMap m = with(10, 10, 0, 0, 10, 0, 0, 10, 10, 10);
        due("line", m.border(0, 1), 2);
        due("point", m.border(0, 3), 1);
        due("point, other way", m.border(3, 0), 1);
        due("itself", m.border(2, 2), -1);
        due("none such", m.border(2, 5), -1);
        due("24", m.border(24, 2), -1);
        WellMap l = with(10, 10, 0, 5, 5, 5, 10, 5);
        due("nothing", l.border(0, 2), 0);
        l.become(1, 3, 0);
        due("nothing for dry", l.border(0, 1), 0);
        due("line now", l.border(0, 2), 2);
    }

    private static void promise16() {
        WellMap m = with(10, 10, 0, 0, 10, 0, 0, 10, 10, 10);
        dueEnd(m, 0, 1, 0, 5, 1, 0, 1);
        dueEnd(m, 0, 1, 1, 5, 1, 5, 1);
        dueEnd(m, 1, 0, 1, 5, 1, 5, 1);
        dueEnd(m, 2, 0, 0, 0, 1, 5, 1);
        dueEnd(m, 2, 0, 1, 5, 1, 5, 1);
        dueEnd(m, 1, 3, 0, 5, 1, 5, 1);
        dueEnd(m, 1, 3, 1, 10, 1, 5, 1);
        dueEnd(m, 0, 3, 0, 5, 1, 5, 1);
        dueEnd(m, 0, 3, 1, -1, -1, -1, -1);
        due("k 2", m.end(0, 1, 2, 0), -1);
        due("k -1", m.end(0, 1, -1, 0), -1);
        due("what 4", m.end(0, 1, 0, 4), -1);
        due("what -1", m.end(0, 1, 0, -1), -1);
        due("itself", m.end(0, 0, 0, 0), -1);
        due("none such", m.end(0, 9, 0, 0), -1);
        due("24", m.end(24, 0, 0, 0), -1);
        m.become(1, 3, 0);
        due("dry", m.end(0, 1, 0, 0), -1);
        WellMap f = with(10, 10, 0, 0, 3, 1, 1, 4);
        dueEnd(f, 0, 1, 0, 23, 22, 41, 22);
        dueEnd(f, 0, 1, 1, 5, 3, 0, 1);
        WellMap upright = with(9, 9, 1, 2, 4, 2, 1, 7, 4, 7);
        dueEnd(upright, 0, 1, 0, 5, 2, 0, 1);
        dueEnd(upright, 0, 1, 1, 5, 2, 9, 2);
        dueEnd(upright, 3, 2, 0, 5, 2, 9, 2);
        dueEnd(upright, 3, 2, 1, 5, 2, 9, 1);
    }

    private static void promise17() {
        WellMap m = with(10, 10, 0, 0, 10, 0, 0, 10, 10, 10);
        due("0", m.about(0), 6);
        due("3", m.about(3), 6);
        due("1", m.about(1), 9);
        due("none such", m.about(4), -1);
        due("-1", m.about(-1), -1);
        due("24", m.about(24), -1);
        m.become(2, 3, 0);
        due("without 2", m.about(0), 2 + 8);
        due("dry", m.about(2), 0);
        m.season(1);
        m.become(3, 4, 1);
        due("another season", m.about(0), 2);
    }

    private static void promise18() {
        due("none", new WellMap().rings(), 0);
        due("two", with(10, 10, 0, 0, 5, 5).rings(), 0);
        due("on a line", with(10, 10, 0, 0, 5, 5, 10, 10).rings(), 0);
        due("three", with(10, 10, 0, 0, 5, 5, 10, 9).rings(), 1);
        WellMap m = with(10, 10, 0, 0, 10, 0, 0, 10, 10, 10, 5, 5);
        due("one in the middle", m.rings(), 4);
        m.become(4, 1, 9);
        due("nothing is taken off", m.rings(), 4);
        m.become(4, 3, 0);
        due("dry", m.rings(), 1);
        m.become(4, 4, 2);
        due("seasonal, not now", m.rings(), 1);
        m.season(1);
        due("seasonal", m.rings(), 4);
    }

    private static void promise19() {
        WellMap m = with(10, 10, 0, 0, 10, 0, 0, 10, 10, 10, 5, 5);
        due("0 1 4", m.ring(0), 1 + 2 + 16);
        due("0 2 4", m.ring(1), 1 + 4 + 16);
        due("1 3 4", m.ring(2), 2 + 8 + 16);
        due("2 3 4", m.ring(3), 4 + 8 + 16);
        due("4", m.ring(4), 0);
        due("-1", m.ring(-1), 0);
        due("least", m.ring(LEAST), 0);
        m.become(4, 3, 0);
        due("four on one round", m.ring(0), 15);
        due("and no more", m.ring(1), 0);
    }

    private static void promise20() {
        WellMap m = with(1000, 1000, 0, 0, 3, 1, 1, 4);
        dueRound(m, 0, 23, 22, 41, 22, 1105, 242);
        WellMap moved = with(1000, 1000, 100, 200, 103, 201, 101, 204, 600, 700);
        dueRound(moved, 0, 2223, 22, 4441, 22, 1105, 242);
        due("its wells", moved.ring(0), 7);
        due("all rings", moved.rings(), 2);
        due("the other ring", moved.ring(1), 2 + 4 + 8);
        due("what 6", m.round(0, 6), -1);
        due("what -1", m.round(0, -1), -1);
        due("k 1", m.round(1, 0), -1);
        due("k -1", m.round(-1, 0), -1);
        WellMap off = with(1000, 1000, 0, 0, 500, 1, 1000, 0);
        dueRound(off, 0, 500, 1, -249999, 2, 62500500001L, 4);
        WellMap flat = with(1000, 1000, 0, 0, 501, 500, 1000, 999);
        dueRound(flat, 0, -998999, 2, 1001999, 2, 1001000499001L, 2);
    }

    private static void promise21() {
        due("without", new WellMap().largest(0), -1);
        due("without", new WellMap().largest(4), -1);
        dueLargest(with(10, 10, 5, 5), 0, 1, 0, 1, 50, 1);
        dueLargest(with(10, 10, 5, 0), 0, 1, 10, 1, 125, 1);
        dueLargest(with(10, 10, 0, 0), 10, 1, 10, 1, 200, 1);
        dueLargest(with(10, 10, 0, 0, 10, 0, 0, 10, 10, 10), 5, 1, 5, 1, 50, 1);
        // Three points are as far: 0 25/4, 5 15/4, 10 25/4.
        dueLargest(with(10, 10, 0, 0, 10, 0, 5, 10), 0, 1, 25, 4, 625, 16);
        dueLargest(with(10, 9, 0, 0, 10, 0, 0, 9, 10, 9, 1, 4, 9, 4), 5, 1, 37, 5, 689, 25);
        dueLargest(with(10, 10, 0, 0, 9, 0), 9, 2, 10, 1, 481, 4);
        // Eight points are as far, and the first of them is at the last well.
        dueLargest(with(30, 10, 25, 5, 15, 5, 5, 5), 0, 1, 0, 1, 50, 1);
        dueLargest(with(30, 10, 5, 5, 25, 5, 15, 5), 0, 1, 0, 1, 50, 1);
        dueLargest(with(10, 30, 5, 25, 5, 15, 5, 5), 0, 1, 0, 1, 50, 1);
        dueLargest(with(30, 10, 27, 5, 18, 5, 9, 5, 0, 5, 0, 0, 30, 0), 9, 2, 10, 1, 181, 4);
        WellMap m = with(10, 10, 0, 0, 10, 10);
        dueLargest(m, 0, 1, 10, 1, 100, 1);
        m.become(0, 1, 1000);
        dueLargest(m, 0, 1, 10, 1, 100, 1);
        due("what 6", m.largest(6), -1);
        due("what -1", m.largest(-1), -1);
        m.become(1, 3, 0);
        dueLargest(m, 10, 1, 10, 1, 200, 1);
        m.rectangle(10, 20);
        dueLargest(m, 10, 1, 20, 1, 500, 1);
    }

    private static void promise22() {
        due("without", new WellMap().closest(0), -1);
        due("one", with(10, 10, 1, 1).closest(2), -1);
        WellMap m = with(10, 10, 0, 0, 5, 0, 9, 0, 9, 4, 4, 4, 0, 4);
        due("lesser", m.closest(0), 0);
        due("other", m.closest(1), 5);
        due("square", m.closest(2), 16);
        due("3", m.closest(3), -1);
        due("-1", m.closest(-1), -1);
        m.become(5, 3, 0);
        due("lesser now", m.closest(0), 1);
        due("other now", m.closest(1), 2);
        due("square still", m.closest(2), 16);
    }

    private static void promise23() {
        WellMap m = with(10, 10, 0, 0, 2, 0, 4, 0, 4, 1);
        due("0", m.nearest(0), 1);
        due("first of several", m.nearest(1), 0);
        due("2", m.nearest(2), 3);
        due("none such", m.nearest(4), -1);
        due("-1", m.nearest(-1), -1);
        due("24", m.nearest(24), -1);
        m.become(3, 3, 0);
        due("dry", m.nearest(3), -1);
        due("dry is not near", m.nearest(2), 1);
        m.become(1, 1, 100);
        due("nothing is taken off", m.nearest(0), 1);
        due("alone", with(10, 10, 1, 1).nearest(0), -1);
    }

    private static void promise24() {
        due("without", new WellMap().tree(), 0);
        due("one", with(10, 10, 1, 1).tree(), 0);
        WellMap m = with(10, 10, 0, 0, 2, 0, 4, 0, 4, 1);
        due("four", m.tree(), 3);
        m.become(1, 3, 0);
        due("three that count", m.tree(), 2);
    }

    private static void promise25() {
        WellMap m = with(10, 10, 10, 0, 0, 0, 10, 10, 0, 10, 9, 9);
        duePipe(m, 0, 2, 4, 2);
        duePipe(m, 1, 0, 4, 82);
        duePipe(m, 2, 3, 4, 82);
        duePipe(m, 3, 0, 1, 100);
        due("4", m.pipe(4, 0), -1);
        due("-1", m.pipe(-1, 0), -1);
        due("what 3", m.pipe(0, 3), -1);
        due("what -1", m.pipe(0, -1), -1);
        m.become(4, 3, 0);
        duePipe(m, 0, 0, 1, 100);
        duePipe(m, 1, 0, 2, 100);
        duePipe(m, 2, 1, 3, 100);
        due("3", m.pipe(3, 0), -1);
    }

    private static void promise26() {
        due("without", new WellMap().hull(), 0);
        due("one", with(10, 10, 1, 1).hull(), 1);
        due("two", with(10, 10, 1, 1, 2, 1).hull(), 2);
        due("line", with(10, 10, 1, 1, 2, 2, 5, 5, 0, 0).hull(), 2);
        due("three", with(10, 10, 1, 1, 2, 2, 5, 5, 0, 1).hull(), 3);
        WellMap m = with(10, 10, 0, 0, 10, 0, 0, 10, 10, 10, 5, 5, 5, 0, 10, 5);
        due("only where it turns", m.hull(), 4);
        m.become(1, 3, 0);
        due("without a corner", m.hull(), 5);
    }

    private static void promise27() {
        WellMap m = with(10, 10, 5, 0, 10, 5, 5, 10, 0, 9, 0, 1, 0, 5, 5, 5);
        int[] want = {4, 0, 1, 2, 3};
        for (int k = 0; k < 5; k++) due("around " + k, m.around(k), want[k]);
        due("5", m.around(5), -1);
        due("-1", m.around(-1), -1);
        WellMap line = with(10, 10, 5, 5, 9, 1, 2, 8, 3, 7);
        due("line first", line.around(0), 2);
        due("line last", line.around(1), 1);
        due("line no more", line.around(2), -1);
        WellMap up = with(10, 10, 5, 9, 5, 1, 5, 4);
        due("upright first", up.around(0), 1);
        due("upright last", up.around(1), 0);
        due("one", with(10, 10, 5, 5).around(0), 0);
        due("without", new WellMap().around(0), -1);
    }

    private static void promise28() {
        WellMap m = with(100, 60, 10, 10);
        due("past the well, along a side", m.keep(0, 2), 400);
        due("and back", m.keep(2, 0), 400);
        due("0 1", m.keep(0, 1), 400);
        due("0 3", m.keep(3, 0), 400);
        due("1 2 is not barred: by the corner's distance or the rim", m.keep(1, 2), 4 * 90 * 90);
        due("2 3: by a corner", m.keep(2, 3), 4 * 50 * 50);
        due("1 3", m.keep(1, 3), 4 * 50 * 50);
        due("itself", m.keep(1, 1), -1);
        due("4", m.keep(0, 4), -1);
        due("4 first", m.keep(4, 0), -1);
        due("-1", m.keep(-1, 0), -1);
        due("-1 last", m.keep(0, -1), -1);
        due("most and least", m.keep(MOST, LEAST), -1);
        due("without", new WellMap().keep(0, 2), -1);
        WellMap chain = with(100, 100, 20, 50, 50, 50, 85, 50);
        due("through the widest gap of the chain", chain.keep(0, 3), 40 * 40);
        due("chain, from corner to corner", chain.keep(0, 2), 40 * 40);
        due("above it", chain.keep(3, 2), 4 * 50 * 50);
        chain.become(1, 3, 0);
        due("a dry one bars nothing", chain.keep(0, 3), 65 * 65);
        due("in a corner", with(10, 10, 0, 0).keep(0, 2), 0);
        due("on a side", with(10, 10, 5, 0).keep(0, 1), 100);
        due("on a side, on the way to another", with(10, 10, 5, 0).keep(0, 3), 100);
        due("from side to side", with(4, 10, 0, 5, 4, 6).keep(0, 3), 17);
        due("not whole before it is taken four times", with(10, 10, 0, 5, 3, 5, 10, 5).keep(1, 3), 49);
    }

    private static void promise29() {
        WellMap m = new WellMap();
        due("8", m.sheet(0, 8), true);
        due("0", m.sheet(7, 0), true);
        due("missing", m.sheet(3, -1), true);
        due("9", m.sheet(0, 9), false);
        due("-2", m.sheet(0, -2), false);
        due("sheet 8", m.sheet(8, 1), false);
        due("sheet -1", m.sheet(-1, 1), false);
        due("least", m.sheet(LEAST, LEAST), false);
        due("no change", m.count(2), 0);
        m.sheet(1, 1);
        m.line(1, 0, 7, 8, 2, 9);
        due("anew", m.sheet(1, 1), true);
        due("all 0", m.lay(1), 1);
        due("x", m.well(0, 0), 0);
        due("y", m.well(0, 1), 0);
        due("kind", m.well(0, 2), 0);
        due("a refused sheet stays as it was", m.lay(0), -2);
        m.sheet(1, 3);
        due("two at 0 0", m.lay(1), -2);
        m.sheet(1, -1);
        due("gone", m.lay(1), -1);
        due("its lines too", m.line(1, 0, 0, 0, 0, 0), false);
    }

    private static void promise30() {
        WellMap m = new WellMap();
        due("missing", m.line(0, 0, 1, 1, 0, 0), false);
        m.sheet(0, 2);
        due("0", m.line(0, 0, 1, 1, 0, 0), true);
        due("1, any numbers", m.line(0, 1, LEAST, MOST, -7, 1 << 30), true);
        due("2", m.line(0, 2, 1, 1, 0, 0), false);
        due("-1", m.line(0, -1, 1, 1, 0, 0), false);
        due("sheet -1", m.line(-1, 0, 1, 1, 0, 0), false);
        due("sheet 8", m.line(8, 0, 1, 1, 0, 0), false);
        due("can't be sunk", m.lay(0), -3);
        due("1", m.line(0, 1, 100, 100, 1, 12), true);
        due("now it can", m.lay(0), 2);
        due("x", m.well(1, 0), 100);
        due("off", m.ask(1, 0), 12);
    }

    private static void promise31() {
        WellMap m = with(10, 10, 5, 5, 6, 6);
        due("missing", m.lay(2), -1);
        due("8", m.lay(8), -1);
        due("-1", m.lay(-1), -1);
        m.fill(0);
        m.sheet(2, 2);
        m.line(2, 0, 1, 1, 2, 3);
        m.line(2, 1, 6, 6, 0, 0);
        int changes = m.count(2);
        due("second is taken", m.lay(2), -3);
        due("none is sunk", m.count(0), 1);
        due("no change", m.count(2), changes);
        m.line(2, 1, 1, 1, 0, 0);
        due("taken by the first", m.lay(2), -3);
        m.line(2, 1, 11, 1, 0, 0);
        due("off the map", m.lay(2), -3);
        m.line(2, 1, 10, 1, 4, 16);
        due("number", m.lay(2), -3);
        m.line(2, 1, 10, 1, 4, 15);
        due("both", m.lay(2), 2);
        due("least free", m.ask(0, 1), 3);
        due("then the next", m.ask(2, 3), 15);
        due("one change", m.count(2), changes + 1);
        due("taken back at once", m.undo(), changes);
        due("wells", m.count(0), 1);
        m.sheet(4, 0);
        due("empty", m.lay(4), 0);
        due("a change too", m.count(2), changes + 1);
        due("taken back", m.undo(), changes);
        for (int i = 0; m.count(0) < 23; i++) m.sink(i % 11, 8 + i / 11, 0, 0);
        due("no room for the second", m.lay(2), -3);
        due("23", m.count(0), 23);
        m.sheet(5, 1);
        due("room for one", m.lay(5), 1);
        m.sheet(6, 1);
        m.line(6, 0, 3, 3, 0, 0);
        due("no room", m.lay(6), -2);
    }

    private static void promise32() {
        WellMap m = new WellMap();
        due("nothing", m.undo(), -1);
        m.sink(11, 12, 0, 0);
        m.become(0, 2, 5);
        m.rectangle(50, 60);
        m.season(2);
        m.fill(0);
        m.sheet(0, 2);
        m.line(0, 0, 3, 3, 0, 0);
        m.lay(0);
        due("lay", m.undo(), 4);
        due("no wells", m.count(0), 0);
        due("sheets stay", m.lay(0), 2);
        due("lay again", m.undo(), 4);
        due("fill", m.undo(), 3);
        due("is back", m.ask(0, 1), 5);
        due("is back at x", m.well(0, 0), 11);
        due("is back at y", m.well(0, 1), 12);
        due("rectangle", m.undo(), 2);
        due("100 wide", m.serves(100, 100, 1), 1);
        due("become", m.undo(), 1);
        due("plain again", m.well(0, 2), 0);
        due("season stays", m.season(1), 2);
        due("sink", m.undo(), 0);
        due("no more", m.undo(), -1);
        due("gone", m.count(0), 0);
        for (int i = 0; i < 10; i++) m.sink(i, i, 0, 0);
        for (int i = 7; i >= 0; i--) due("eight", m.undo(), i);
        due("the ninth is lost", m.undo(), -1);
        due("two stay", m.count(0), 2);
        m.sink(1, 1, 0, 0);
        m.fill(9);
        m.become(0, 9, 9);
        m.rectangle(0, 0);
        due("what is refused is no change", m.undo(), -1);
        m.sink(50, 50, 0, 0);
        m.undo();
        due("what is found is found anew", m.hull(), 2);
    }

    public static void main(String[] args) {
        Runnable[] all = {PromiseTest::promise1, PromiseTest::promise2, PromiseTest::promise3, PromiseTest::promise4,
            PromiseTest::promise5, PromiseTest::promise6, PromiseTest::promise7, PromiseTest::promise8,
            PromiseTest::promise9, PromiseTest::promise10, PromiseTest::promise11, PromiseTest::promise12,
            PromiseTest::promise13, PromiseTest::promise14, PromiseTest::promise15, PromiseTest::promise16,
            PromiseTest::promise17, PromiseTest::promise18, PromiseTest::promise19, PromiseTest::promise20,
            PromiseTest::promise21, PromiseTest::promise22, PromiseTest::promise23, PromiseTest::promise24,
            PromiseTest::promise25, PromiseTest::promise26, PromiseTest::promise27, PromiseTest::promise28,
            PromiseTest::promise29, PromiseTest::promise30, PromiseTest::promise31, PromiseTest::promise32};
        for (Runnable one : all) {
            promise++;
            one.run();
        }
        System.out.println(wrong == 0 ? "all 32 promises are kept" : wrong + " answers are not as due");
        if (wrong != 0) System.exit(1);
    }
}
