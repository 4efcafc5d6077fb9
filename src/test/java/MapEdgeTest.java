import java.io.IOException;

/** The edges that promises 1 to 9 name, clause by clause: the map, its season and its wells. */
public final class MapEdgeTest extends Edges {
    private static final int[][] ONE_OF_EACH = {{0, 0}, {1, 44}, {2, 55}, {3, 0}, {4, 6}};
    private static final int[] NO_WELL = {-1, 24, 25, 31, 32, LEAST, MOST, LEAST + 1, MOST - 1, 256, 65536, -24};

    /** One well of each kind, 0 to 4, in a row. */
    private static WellMap oneOfEach() {
        WellMap m = new WellMap();
        for (int kind = 0; kind < 5; kind++) m.sink(10 + kind, 20, kind, ONE_OF_EACH[kind][1]);
        return m;
    }

    private static WellMap full() {
        WellMap m = new WellMap();
        for (int w = 0; w < 24; w++) m.sink(w, 2 * w, 0, 0);
        return m;
    }

    // ---- 1

    private static void aNewMap() {
        WellMap m = new WellMap();
        due("on it", m.serves(100, 100, 1), 0);
        due("off it", m.serves(101, 100, 1), -1);
        due("off it", m.serves(100, 101, 1), -1);
        due("its first well has it all", m.sink(0, 0, 0, 0), 0);
        due("ground", ground(m, 0), "0 0, 100 0, 100 100, 0 100");
    }

    private static void withoutWells() {
        WellMap m = new WellMap();
        due("wells", m.count(0), 0);
        due("those that count", m.count(1), 0);
        due("changes", m.count(2), 0);
        due("undo", m.undo(), -1);
        for (int w = 0; w < 24; w++) {
            due("well", m.well(w, 0), -1);
            due("ask", m.ask(w, 1), -1);
            due("fill", m.fill(w), -1);
            due("become", m.become(w, 0, 0), -1);
            due("corners", m.corners(w), -1);
            due("corner", m.corner(w, 0, 0), -1);
            due("about", m.about(w), -1);
            due("nearest", m.nearest(w), -1);
            due("beside", m.beside(w, (w + 1) % 24), -1);
            due("border", m.border(w, (w + 1) % 24), -1);
            due("end", m.end(w, (w + 1) % 24, 0, 0), -1);
        }
        due("serves", m.serves(3, 3, 1), 0);
        due("next", m.next(3, 3, 1, 0), -1);
        due("rings", m.rings(), 0);
        due("ring", m.ring(0), 0);
        due("round", m.round(0, 0), -1);
        due("tree", m.tree(), 0);
        due("pipe", m.pipe(0, 0), -1);
        due("hull", m.hull(), 0);
        due("around", m.around(0), -1);
        for (int what = 0; what < 6; what++) due("largest", m.largest(what), -1);
        for (int what = 0; what < 3; what++) due("closest", m.closest(what), -1);
        for (int from = 0; from < 4; from++) for (int to = 0; to < 4; to++) due("keep", m.keep(from, to), -1);
    }

    private static void withoutSheets() {
        WellMap m = new WellMap();
        for (int s = 0; s < 8; s++) {
            due("lay", m.lay(s), -1);
            for (int k = 0; k < 8; k++) due("line", m.line(s, k, 1, 1, 0, 0), false);
        }
    }

    /** Two maps have nothing in common. */
    private static void apart() {
        WellMap one = new WellMap();
        WellMap other = new WellMap();
        one.sink(1, 1, 0, 0);
        one.sheet(0, 1);
        one.season(2);
        one.rectangle(7, 7);
        due("wells", other.count(0), 0);
        due("changes", other.count(2), 0);
        due("sheets", other.lay(0), -1);
        due("season", other.season(0), 0);
        due("size", other.serves(100, 100, 1), 0);
        due("one's wells", one.count(0), 1);
    }

    // ---- 2

    private static void soLarge() {
        WellMap m = map(100, 100, 3, 4);
        due("smaller", m.rectangle(3, 4), true);
        due("ground", ground(m, 0), "0 0, 3 0, 3 4, 0 4");
        due("on it", m.serves(3, 4, 1), 1);
        due("off it", m.serves(4, 4, 1), -1);
        due("off it", m.serves(3, 5, 1), -1);
        due("larger", m.rectangle(1000, 999), true);
        due("ground", ground(m, 0), "0 0, 1000 0, 1000 999, 0 999");
        due("on it", m.serves(1000, 999, 1), 1);
        due("a change each", m.count(2), 4);
        due("the same again", m.rectangle(1000, 999), true);
        due("is a change", m.count(2), 5);
    }

    private static void wellsStay() {
        WellMap m = oneOfEach();
        due("larger", m.rectangle(1000, 1000), true);
        due("smaller", m.rectangle(14, 20), true);
        for (int w = 0; w < 5; w++) {
            due("x", m.well(w, 0), 10 + w);
            due("y", m.well(w, 1), 20);
            due("kind", m.well(w, 2), w);
        }
        due("wells", m.count(0), 5);
    }

    private static void sizesThatCantBe() {
        for (int side : new int[] {0, -1, 1001, LEAST, MOST, LEAST + 100, MOST - 1, 65536 + 50, 256 * 256 * 256}) {
            WellMap m = new WellMap();
            due("wide " + side, m.rectangle(side, 50), false);
            due("high " + side, m.rectangle(50, side), false);
            due("both " + side, m.rectangle(side, side), false);
            due("no change", m.count(2), 0);
            due("still 100", m.serves(100, 100, 1), 0);
        }
        WellMap m = new WellMap();
        due("the least", m.rectangle(1, 1), true);
        due("the most", m.rectangle(1000, 1000), true);
    }

    private static void wellsOffIt() {
        int[][] kinds = {{0, 0}, {1, 9}, {2, 9}, {3, 0}, {4, 2}};
        for (int[] kind : kinds) {
            WellMap m = new WellMap();
            m.sink(30, 40, kind[0], kind[1]);
            due("not wide enough", m.rectangle(29, 100), false);
            due("not high enough", m.rectangle(100, 39), false);
            due("neither", m.rectangle(29, 39), false);
            due("still 100", m.serves(100, 100, 1) >= 0, true);
            due("no change", m.count(2), 1);
            due("just large enough", m.rectangle(30, 40), true);
            due("filled in", m.fill(0), 0);
            due("now it can", m.rectangle(29, 39), true);
        }
        WellMap last = full();
        due("the last of 24", last.rectangle(22, 100), false);
        due("the last of 24", last.rectangle(23, 46), true);
    }

    // ---- 3

    private static void whatTheSeasonWas() {
        for (int from = 0; from < 4; from++) {
            for (int to = 0; to < 4; to++) {
                WellMap m = new WellMap();
                due("from 0", m.season(from), 0);
                due("on", m.season(to), from);
                due("and on", m.season(0), to);
            }
        }
        WellMap m = new WellMap();
        m.season(1);
        due("no change", m.count(2), 0);
        m.sink(5, 5, 4, 2);
        due("counts at once", m.count(1), 1);
        due("hull", m.hull(), 1);
        m.season(2);
        due("counts no more", m.count(1), 0);
        due("hull", m.hull(), 0);
        due("ground", m.corners(0), 0);
    }

    private static void noSuchSeason() {
        WellMap m = new WellMap();
        m.season(3);
        for (int s : new int[] {-1, 4, 5, 7, 8, 15, LEAST, MOST, LEAST + 3, 32, 35, -4}) due("season " + s, m.season(s), -1);
        due("it stays", m.season(0), 3);
    }

    // ---- 4

    private static void leastThatIsFree() {
        WellMap m = full();
        for (int w : new int[] {0, 23, 11, 5}) {
            m.fill(w);
            due("the only one that is free", m.sink(w, 99, 0, 0), w);
        }
        m.fill(17);
        m.fill(4);
        m.fill(20);
        due("the least", m.sink(50, 50, 0, 0), 4);
        due("then", m.sink(51, 50, 0, 0), 17);
        due("then", m.sink(52, 50, 0, 0), 20);
        due("full", m.sink(53, 50, 0, 0), -3);
        WellMap one = new WellMap();
        due("first", one.sink(0, 0, 0, 0), 0);
        due("second", one.sink(0, 1, 0, 0), 1);
        due("fill", one.fill(0), 1);
        due("first again", one.sink(0, 0, 3, 0), 0);
    }

    private static void sinkRefusesPlaceKindNumber() {
        int[][] cant = {
            {-1, 5, 0, 0}, {5, -1, 0, 0}, {41, 5, 0, 0}, {5, 31, 0, 0}, {LEAST, 5, 0, 0}, {5, LEAST, 0, 0}, {MOST, 5, 0, 0},
            {5, MOST, 0, 0}, {5, 5, -1, 0}, {5, 5, 5, 0}, {5, 5, LEAST, 0}, {5, 5, MOST, 0}, {5, 5, 0, 1}, {5, 5, 0, -1},
            {5, 5, 1, -1}, {5, 5, 1, 1000001}, {5, 5, 1, LEAST}, {5, 5, 1, MOST}, {5, 5, 2, -1}, {5, 5, 2, 1000000},
            {5, 5, 2, LEAST}, {5, 5, 2, MOST}, {5, 5, 3, 1}, {5, 5, 3, -1}, {5, 5, 4, 0}, {5, 5, 4, 16}, {5, 5, 4, -1},
            {5, 5, 4, LEAST}, {5, 5, 4, MOST}, {MOST, MOST, MOST, MOST}, {LEAST, LEAST, LEAST, LEAST}};
        for (int[] c : cant) {
            WellMap m = map(40, 30);
            due("sink " + c[0] + " " + c[1] + " " + c[2] + " " + c[3], m.sink(c[0], c[1], c[2], c[3]), -1);
            due("wells", m.count(0), 0);
            due("changes", m.count(2), 1);
        }
        int[][] can = {{0, 0, 0, 0}, {40, 30, 0, 0}, {40, 0, 1, 0}, {0, 30, 1, 1000000}, {5, 5, 2, 0}, {5, 6, 2, 999999},
            {5, 7, 3, 0}, {5, 8, 4, 1}, {5, 9, 4, 15}};
        WellMap m = map(40, 30);
        for (int i = 0; i < can.length; i++) due("sink", m.sink(can[i][0], can[i][1], can[i][2], can[i][3]), i);
    }

    private static void sinkRefusesTaken() {
        WellMap m = oneOfEach();
        for (int w = 0; w < 5; w++) {
            for (int kind = 0; kind < 5; kind++) due("taken", m.sink(10 + w, 20, kind, ONE_OF_EACH[kind][1]), -2);
            due("but what can't be goes first", m.sink(10 + w, 20, 0, 1), -1);
        }
        due("changes", m.count(2), 5);
        due("wells", m.count(0), 5);
    }

    private static void sinkRefuses25() {
        WellMap m = full();
        for (int kind = 0; kind < 5; kind++) due("no room", m.sink(99, 99, kind, ONE_OF_EACH[kind][1]), -3);
        due("what can't be goes first", m.sink(101, 99, 0, 0), -1);
        due("taken goes first", m.sink(23, 46, 0, 0), -2);
        due("wells", m.count(0), 24);
        due("changes", m.count(2), 8);
        due("one less", m.fill(12), 23);
        due("room", m.sink(99, 99, 0, 0), 12);
        due("no room", m.sink(98, 99, 0, 0), -3);
    }

    // ---- 5

    private static void howManyAreLeft() {
        WellMap m = full();
        m.become(3, 3, 0);
        for (int w = 23; w >= 0; w--) {
            due("fill " + w, m.fill(w), w);
            due("gone", m.well(w, 0), -1);
            due("wells", m.count(0), w);
        }
        WellMap up = full();
        for (int w = 0; w < 24; w++) {
            due("fill " + w, up.fill(w), 23 - w);
            if (w < 23) due("the next one stays", up.well(w + 1, 0), w + 1);
        }
    }

    private static void nothingToFill() {
        WellMap m = map(10, 10, 1, 1, 2, 2, 3, 3);
        for (int w : NO_WELL) due("fill " + w, m.fill(w), -1);
        for (int w = 3; w < 24; w++) due("fill " + w, m.fill(w), -1);
        for (int w = 0; w < 3; w++) for (int v : lookalikes(w)) due("fill " + v, m.fill(v), -1);
        due("changes", m.count(2), 4);
        m.fill(1);
        due("again", m.fill(1), -1);
        due("changes", m.count(2), 5);
    }

    // ---- 6

    private static void itsKindBefore() {
        for (int from = 0; from < 5; from++) {
            for (int to = 0; to < 5; to++) {
                WellMap m = new WellMap();
                m.sink(7, 8, from, ONE_OF_EACH[from][1]);
                due("become", m.become(0, to, ONE_OF_EACH[to][1]), from);
                due("kind", m.well(0, 2), to);
                due("x", m.well(0, 0), 7);
                due("y", m.well(0, 1), 8);
                due("counts", m.well(0, 3), to < 3 ? 1 : 0);
                due("a change", m.count(2), 2);
            }
        }
        WellMap last = full();
        due("the last", last.become(23, 4, 15), 0);
        due("the first", last.become(0, 3, 0), 0);
        due("kind", last.well(23, 2) * 10 + last.well(0, 2), 43);
    }

    private static void nothingToBecome() {
        WellMap m = map(10, 10, 1, 1, 2, 2, 3, 3);
        for (int w : NO_WELL) due("become " + w, m.become(w, 0, 0), -1);
        for (int w = 3; w < 24; w++) due("become " + w, m.become(w, 0, 0), -1);
        for (int w = 0; w < 3; w++) for (int v : lookalikes(w)) due("become " + v, m.become(v, 0, 0), -1);
        m.fill(1);
        due("filled in", m.become(1, 0, 0), -1);
        due("changes", m.count(2), 5);
    }

    private static void cantBecome() {
        int[][] cant = {{0, 1}, {0, -1}, {0, MOST}, {1, -1}, {1, 1000001}, {1, LEAST}, {1, MOST}, {2, -1}, {2, 1000000},
            {2, LEAST}, {2, MOST}, {3, 1}, {3, -1}, {3, LEAST}, {4, 0}, {4, 16}, {4, -1}, {4, LEAST}, {4, MOST}, {5, 0},
            {-1, 0}, {LEAST, 0}, {MOST, 0}, {MOST, MOST}};
        for (int[] c : cant) {
            WellMap m = oneOfEach();
            for (int w = 0; w < 5; w++) {
                due("become " + c[0] + " " + c[1], m.become(w, c[0], c[1]), -1);
                due("kind", m.well(w, 2), w);
            }
            due("off", m.ask(1, 0), 44);
            due("word", m.ask(2, 1), 55);
            due("seasons", m.ask(4, 3), 6);
            due("changes", m.count(2), 5);
        }
        int[][] can = {{0, 0}, {1, 0}, {1, 1000000}, {2, 0}, {2, 999999}, {3, 0}, {4, 1}, {4, 15}};
        for (int[] c : can) due("become " + c[0] + " " + c[1], oneOfEach().become(0, c[0], c[1]), 0);
    }

    // ---- 7

    private static void ofAWell() {
        WellMap m = map(1000, 1000, 0, 0, 1000, 999);
        due("least x", m.well(0, 0), 0);
        due("least y", m.well(0, 1), 0);
        due("most x", m.well(1, 0), 1000);
        due("y", m.well(1, 1), 999);
        WellMap each = oneOfEach();
        for (int w = 0; w < 5; w++) due("kind", each.well(w, 2), w);
        for (int season = 0; season < 4; season++) {
            each.season(season);
            for (int w = 0; w < 3; w++) due("counts", each.well(w, 3), 1);
            due("dry", each.well(3, 3), 0);
            due("seasonal", each.well(4, 3), season == 1 || season == 2 ? 1 : 0);
        }
        WellMap last = full();
        for (int w = 0; w < 24; w++) {
            due("x", last.well(w, 0), w);
            due("y", last.well(w, 1), 2 * w);
        }
    }

    private static void noSuchOfAWell() {
        WellMap m = oneOfEach();
        for (int what = 0; what < 4; what++) {
            for (int w : NO_WELL) due("well " + w, m.well(w, what), -1);
            due("well 5", m.well(5, what), -1);
            for (int v : lookalikes(0)) due("well " + v, m.well(v, what), -1);
        }
        for (int what : new int[] {-1, 4, 5, LEAST, MOST, 32, 256}) due("what " + what, m.well(0, what), -1);
        m.fill(2);
        for (int what = 0; what < 4; what++) due("filled in", m.well(2, what), -1);
    }

    // ---- 8

    private static void askedAs(int as, int... want) {
        WellMap m = oneOfEach();
        for (int w = 0; w < 5; w++) due("kind " + w + " as " + as, m.ask(w, as), want[w]);
        m.season(2);
        for (int w = 0; w < 5; w++) due("kind " + w + " as " + as + ", in another season", m.ask(w, as), want[w]);
    }

    private static void askedAtTheEnds() {
        int[][] ends = {{1, 0, 0}, {1, 1000000, 0}, {2, 0, 1}, {2, 999999, 1}, {4, 1, 3}, {4, 15, 3}};
        for (int[] e : ends) {
            WellMap m = new WellMap();
            m.sink(1, 1, e[0], e[1]);
            due("kind " + e[0] + " with " + e[1], m.ask(0, e[2]), e[1]);
        }
    }

    private static void nobodyToAsk() {
        WellMap m = oneOfEach();
        for (int as = -1; as < 5; as++) {
            for (int w : NO_WELL) due("ask " + w, m.ask(w, as), -1);
            due("ask 5", m.ask(5, as), -1);
            for (int v : lookalikes(2)) due("ask " + v, m.ask(v, as), -1);
        }
        m.fill(2);
        due("filled in", m.ask(2, 1), -1);
    }

    private static void otherQuestions() {
        WellMap m = oneOfEach();
        for (int w = 0; w < 5; w++) {
            for (int as : new int[] {-1, 4, 5, -2, LEAST, MOST, 32, 33, 256, 65536}) due("kind " + w + " as " + as, m.ask(w, as), -1);
        }
    }

    // ---- 9

    private static void countWells() {
        WellMap m = new WellMap();
        for (int w = 0; w < 24; w++) {
            due("wells", m.count(0), w);
            m.sink(w, 1, w % 5, w % 5 == 4 ? 15 : 0);
        }
        due("24", m.count(0), 24);
        m.sink(50, 50, 0, 0);
        due("no more", m.count(0), 24);
    }

    private static void countThoseThatCount() {
        WellMap m = oneOfEach();
        int[] want = {3, 4, 4, 3};
        for (int season = 0; season < 4; season++) {
            m.season(season);
            due("season " + season, m.count(1), want[season]);
        }
        WellMap all = full();
        due("all", all.count(1), 24);
        for (int w = 0; w < 24; w++) {
            all.become(w, 3, 0);
            due("less", all.count(1), 23 - w);
        }
        due("wells", all.count(0), 24);
    }

    private static void countChanges() {
        WellMap m = new WellMap();
        for (int i = 0; i < 8; i++) {
            due("changes", m.count(2), i);
            m.sink(i, 0, 0, 0);
        }
        due("eight", m.count(2), 8);
        m.sink(8, 0, 0, 0);
        due("not nine", m.count(2), 8);
        for (int i = 7; i >= 0; i--) {
            due("undo", m.undo(), i);
            due("less", m.count(2), i);
        }
        due("no more", m.undo(), -1);
        due("none", m.count(2), 0);
    }

    private static void countNothingElse() {
        WellMap m = full();
        for (int what : new int[] {-1, 3, 4, LEAST, MOST, 32, 256, 65536, LEAST + 1}) due("count " + what, m.count(what), -1);
    }

    public static void main(String[] args) throws IOException {
        readDocument();
        clause(1, "A map of 100 by 100", MapEdgeTest::aNewMap);
        clause(1, "without WELLS", MapEdgeTest::withoutWells);
        clause(1, "no SHEETS", MapEdgeTest::withoutSheets);
        clause(1, "A map of 100 by 100 without WELLS, no SHEETS.", MapEdgeTest::apart);
        clause(2, "THE MAP becomes so large", MapEdgeTest::soLarge);
        clause(2, "its WELLS stay: true", MapEdgeTest::wellsStay);
        clause(2, "false when that can't be", MapEdgeTest::sizesThatCantBe);
        clause(2, "or a WELL would not be on it", MapEdgeTest::wellsOffIt);
        clause(3, "SEASON: what it was", MapEdgeTest::whatTheSeasonWas);
        clause(3, "NONE when there is none such", MapEdgeTest::noSuchSeason);
        clause(4, "A WELL is sunk: its number (the least that is free)", MapEdgeTest::leastThatIsFree);
        clause(4, "-1 the place, KIND or number can't be", MapEdgeTest::sinkRefusesPlaceKindNumber);
        clause(4, "-2 there is one at that place", MapEdgeTest::sinkRefusesTaken);
        clause(4, "-3 there are 24", MapEdgeTest::sinkRefuses25);
        clause(5, "A WELL is filled in: how many are left", MapEdgeTest::howManyAreLeft);
        clause(5, "NONE when there is none such", MapEdgeTest::nothingToFill);
        clause(6, "A WELL becomes another KIND, with another number: its KIND before", MapEdgeTest::itsKindBefore);
        clause(6, "NONE when there is none such", MapEdgeTest::nothingToBecome);
        clause(6, "or it can't be", MapEdgeTest::cantBecome);
        clause(7, "Of a WELL: 0 x, 1 y, 2 KIND, 3 whether it COUNTS (1, 0)", MapEdgeTest::ofAWell);
        clause(7, "NONE when there is none such", MapEdgeTest::noSuchOfAWell);
        clause(8, "What a WELL is asked as", MapEdgeTest::askedAtTheEnds);
        clause(8, "0 a DEEP one: what is taken off", () -> askedAs(0, -2, 44, -2, -2, -2));
        clause(8, "1 a MARKED one: its word (a DRY or SEASONAL one's is 0)", () -> askedAs(1, -2, -2, 55, 0, 0));
        clause(8, "2 a DRY one: 0 (a SEASONAL one too)", () -> askedAs(2, -2, -2, -2, 0, 0));
        clause(8, "3 a SEASONAL one: its seasons", () -> askedAs(3, -2, -2, -2, -2, 6));
        clause(8, "-2 it is of another KIND", () -> {
            for (int as = 0; as < 4; as++) due("a plain one", oneOfEach().ask(0, as), -2);
        });
        clause(8, "NONE when there is none such", MapEdgeTest::nobodyToAsk);
        clause(8, "or for other questions", MapEdgeTest::otherQuestions);
        clause(9, "0 WELLS", MapEdgeTest::countWells);
        clause(9, "1 those that COUNT", MapEdgeTest::countThoseThatCount);
        clause(9, "2 changes that can be taken back", MapEdgeTest::countChanges);
        clause(9, "NONE for others", MapEdgeTest::countNothingElse);
        allHeld(1, 9);
        finish();
    }
}
