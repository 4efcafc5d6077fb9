import java.io.IOException;

/** The edges that promises 18 to 28 name, clause by clause: rings, the largest dry round, nets, hulls and ways. */
public final class RoundEdgeTest extends Edges {
    private static final int[] NO_WELL = {-1, 24, 25, 31, 32, LEAST, MOST, LEAST + 1, MOST - 1, 256, 65536, -24};
    private static final int ALL = (1 << 24) - 1;

    /** Three wells around 21 others, no four on an empty round: as many rings as can be, 2 * 24 - 5. */
    private static WellMap mostRings() {
        return map(1000, 1000, 0, 0, 1000, 0, 0, 1000, 61, 449, 230, 48, 216, 354, 520, 255, 78, 378, 174, 263, 185, 376, 42, 21,
                644, 289, 525, 348, 153, 461, 304, 683, 246, 246, 303, 363, 239, 736, 299, 292, 717, 247, 808, 17, 288, 89,
                206, 259, 152, 819);
    }

    /** 0 to 3 in the corners of 10 by 10, 4 in the middle. */
    private static WellMap five() {
        return map(10, 10, 0, 0, 10, 0, 0, 10, 10, 10, 5, 5);
    }

    /** A map with one dry well and one that counts in season 3 only. */
    private static WellMap noneThatCounts() {
        WellMap m = map(10, 10, 1, 1, 7, 7);
        m.become(0, 3, 0);
        m.become(1, 4, 8);
        return m;
    }

    // ---- 18

    private static void howManyRings() {
        due("no wells", new WellMap().rings(), 0);
        due("none that counts", noneThatCounts().rings(), 0);
        due("two", map(10, 10, 0, 0, 1, 0).rings(), 0);
        due("three", map(10, 10, 0, 0, 1, 0, 0, 1).rings(), 1);
        due("24 on a round", map(36, 36, roundOf24()).rings(), 1);
        int[] line = new int[48];
        for (int i = 0; i < 48; i++) line[i] = i / 2;
        due("24 on a line", map(100, 100, line).rings(), 0);
        line[1] = 1;
        due("all but one on a line", map(100, 100, line).rings(), 22);
        due("the most", mostRings().rings(), 43);
        WellMap grid = new WellMap();
        for (int w = 0; w < 24; w++) grid.sink(w % 6, w / 6, 0, 0);
        due("a grid of 6 by 4 has 15 squares", grid.rings(), 15);
    }

    // ---- 19

    private static void whichRing() {
        due("five", rings(five()), "0 1 4, 0 2 4, 1 3 4, 2 3 4");
        due("24", map(36, 36, roundOf24()).ring(0), ALL);
        WellMap m = mostRings();
        int before = 0;
        for (int k = 0; k < 43; k++) {
            due("three wells", Integer.bitCount(m.ring(k)), 3);
            int now = Integer.reverse(m.ring(k));
            due("in order", k == 0 || Integer.compareUnsigned(before, now) > 0, true);
            before = now;
        }
        due("the last well is in a ring", m.ring(42) >> 21 != 0, true);
        WellMap grid = new WellMap();
        for (int w = 0; w < 24; w++) grid.sink(w % 6, w / 6, 0, 0);
        due("the first square", grid.ring(0), 1 + 2 + 64 + 128);
        due("the last square", grid.ring(14), (1 + 2 + 64 + 128) << 16);
    }

    private static void noSuchRing() {
        for (int k : new int[] {-1, 4, 5, LEAST, MOST, 32, 48, 256, LEAST + 1}) due("ring " + k, five().ring(k), 0);
        due("the 44th", mostRings().ring(43), 0);
        due("the 43rd", mostRings().ring(42) != 0, true);
        due("no wells", new WellMap().ring(0), 0);
        due("two", map(10, 10, 0, 0, 1, 0).ring(0), 0);
        WellMap m = five();
        due("four rings", m.ring(3), 4 + 8 + 16);
        m.become(4, 3, 0);
        due("one is left", m.ring(0), 15);
        due("and no second", m.ring(1), 0);
    }

    // ---- 20

    private static void ofTheRound() {
        WellMap m = map(10, 10, 0, 0, 3, 1, 1, 4);
        long[] want = {23, 22, 41, 22, 1105, 242};
        for (int what = 0; what < 6; what++) due("part " + what, m.round(0, what), want[what]);
        due("whole", round(five(), 0), "5 0 by 25");
        due("the second", round(five(), 1), "0 5 by 25");
        due("the third", round(five(), 2), "10 5 by 25");
        due("the last", round(five(), 3), "5 10 by 25");
        due("the smallest", round(map(1, 1, 0, 0, 1, 0, 0, 1), 0), "1/2 1/2 by 1/2");
        due("very large", round(map(1000, 1000, 0, 0, 997, 999, 498, 499), 0),
                "497504995/2 -496506995/2 by 247015208066940025/2");
        due("very large, turned", round(map(1000, 1000, 498, 499, 997, 999, 0, 0), 0),
                "497504995/2 -496506995/2 by 247015208066940025/2");
        due("to the upper left", round(map(1000, 1000, 0, 0, 999, 997, 499, 498), 0),
                "-496506995/2 497504995/2 by 247015208066940025/2");
        due("much below the line", round(map(1000, 1000, 0, 0, 999, 1000, 1000, 999), 0),
                "1998001/3998 1998001/3998 by 3992007996001/7992002");
        due("of 24", round(map(36, 36, roundOf24()), 0), "18 18 by 325");
    }

    private static void ofNoRound() {
        for (int what = -1; what < 7; what++) {
            for (int k : new int[] {-1, 4, 5, LEAST, MOST, 32, 48, 256}) due("ring " + k, five().round(k, what), -1);
            due("no wells", new WellMap().round(0, what), -1);
            due("the 44th", mostRings().round(43, what), -1);
        }
        due("the 43rd", mostRings().round(42, 5) > 0, true);
        for (int what : new int[] {-1, 6, 7, LEAST, MOST, 32, 256, LEAST + 1}) {
            for (int k = 0; k < 4; k++) due("part " + what, five().round(k, what), -1);
        }
    }

    // ---- 21

    private static void theLargest() {
        WellMap m = map(10, 10, 0, 0, 9, 0);
        long[] want = {9, 2, 10, 1, 481, 4};
        for (int what = 0; what < 6; what++) due("part " + what, m.largest(what), want[what]);
        due("one", largest(map(1000, 1000, 0, 0)), "1000 1000 by 2000000");
        due("only the corner of the map", largest(map(1, 1, 0, 0, 1, 0, 0, 1)), "1 1 by 1");
        WellMap changed = map(10, 10, 0, 0);
        due("first", largest(changed), "10 10 by 200");
        changed.rectangle(20, 10);
        due("on a larger map", largest(changed), "20 10 by 500");
        changed.sink(20, 10, 4, 2);
        due("not in this season", largest(changed), "20 10 by 500");
        changed.season(1);
        due("in its season", largest(changed), "15/2 10 by 625/4");
        changed.undo();
        due("taken back", largest(changed), "20 10 by 500");
    }

    private static void noLargest() {
        for (int what = -1; what < 7; what++) {
            due("no wells", new WellMap().largest(what), -1);
            due("none that counts", noneThatCounts().largest(what), -1);
        }
        WellMap m = noneThatCounts();
        m.season(3);
        due("one counts", largest(m), "0 0 by 98");
    }

    private static void noOtherOfLargest() {
        for (int what : new int[] {-1, 6, 7, LEAST, MOST, 32, 256, LEAST + 4}) due("part " + what, five().largest(what), -1);
    }

    // ---- 22

    private static void theClosest() {
        due("two", closest(map(1000, 1000, 1000, 1000, 0, 0)), "0 1 by 2000000");
        due("not the first", closest(map(10, 10, 0, 0, 5, 5, 10, 10, 10, 9)), "2 3 by 1");
        due("the last two of 24", closest(rowWithCloseEnd()), "22 23 by 1");
        WellMap m = map(10, 10, 0, 0, 1, 0, 5, 5, 7, 7);
        m.become(0, 3, 0);
        due("not with a dry one", closest(m), "2 3 by 8");
        m.become(0, 4, 2);
        due("nor of another season", closest(m), "2 3 by 8");
        m.season(1);
        due("in its season", closest(m), "0 1 by 1");
    }

    private static WellMap rowWithCloseEnd() {
        int[] places = new int[48];
        for (int i = 0; i < 24; i++) {
            places[2 * i] = i < 23 ? 2 * i : 45;
            places[2 * i + 1] = 0;
        }
        return map(100, 100, places);
    }

    private static void firstOfSeveralClosest() {
        due("by the lesser", closest(map(10, 10, 9, 9, 0, 0, 0, 2, 9, 7)), "0 3 by 4");
        due("then by the other", closest(map(10, 10, 5, 5, 0, 0, 5, 7, 7, 5)), "0 2 by 4");
        due("the lesser goes before the other", closest(map(10, 10, 0, 0, 4, 0, 6, 0, 9, 9, 0, 2)), "0 4 by 4");
    }

    private static void noClosest() {
        for (int what = -1; what < 4; what++) {
            due("no wells", new WellMap().closest(what), -1);
            due("one", map(10, 10, 5, 5).closest(what), -1);
            WellMap m = map(10, 10, 5, 5, 6, 6);
            m.become(1, 3, 0);
            due("one and a dry one", m.closest(what), -1);
            due("none that counts", noneThatCounts().closest(what), -1);
        }
        for (int what : new int[] {-1, 3, 4, LEAST, MOST, 32, 256}) due("part " + what, five().closest(what), -1);
    }

    // ---- 23

    private static void theNearest() {
        WellMap m = map(100, 100, 0, 0, 30, 0, 40, 0, 100, 0);
        due("0", m.nearest(0), 1);
        due("1", m.nearest(1), 2);
        due("2", m.nearest(2), 1);
        due("3", m.nearest(3), 2);
        m.become(2, 3, 0);
        due("not a dry one", m.nearest(1), 0);
        WellMap last = rowWithCloseEnd();
        due("of the last", last.nearest(23), 22);
        due("the last", last.nearest(22), 23);
    }

    private static void firstOfSeveralNearest() {
        due("the first", map(10, 10, 5, 5, 9, 5, 1, 5, 5, 9, 5, 1).nearest(0), 1);
        due("the first, seen from the last", map(10, 10, 9, 5, 1, 5, 5, 9, 5, 1, 5, 5).nearest(4), 0);
        due("seen from between", map(10, 10, 9, 5, 5, 5, 1, 5).nearest(1), 0);
        due("not itself", map(10, 10, 0, 0, 9, 9).nearest(0), 1);
    }

    private static void noneNearest() {
        WellMap m = map(10, 10, 5, 5, 6, 6, 7, 7);
        for (int w : NO_WELL) due("nearest " + w, m.nearest(w), -1);
        for (int w = 3; w < 24; w++) due("nearest " + w, m.nearest(w), -1);
        for (int w = 0; w < 3; w++) for (int v : lookalikes(w)) due("nearest " + v, m.nearest(v), -1);
        m.become(1, 3, 0);
        due("of a dry one", m.nearest(1), -1);
        m.become(2, 4, 2);
        due("of one of another season", m.nearest(2), -1);
        due("no other that counts", m.nearest(0), -1);
        m.season(1);
        due("in its season", m.nearest(0), 2);
        m.fill(2);
        due("filled in", m.nearest(2), -1);
        due("alone", map(10, 10, 5, 5).nearest(0), -1);
        due("no wells", new WellMap().nearest(0), -1);
    }

    // ---- 24

    private static void howManyPipes() {
        due("no wells", new WellMap().tree(), 0);
        due("none that counts", noneThatCounts().tree(), 0);
        WellMap m = new WellMap();
        for (int w = 0; w < 24; w++) {
            m.sink(w, w * w % 50, 0, 0);
            due("wells " + (w + 1), m.tree(), w);
        }
        for (int w = 0; w < 24; w++) {
            m.become(w, 3, 0);
            due("dry " + (w + 1), m.tree(), Math.max(22 - w, 0));
        }
    }

    // ---- 25

    private static void thePipes() {
        due("as they were taken", net(map(10, 10, 10, 0, 0, 0, 10, 10, 0, 10, 9, 9)), "2 4 by 2, 0 4 by 82, 3 4 by 82, 0 1 by 100");
        WellMap row = rowWithCloseEnd();
        due("the first", row.pipe(0, 0) * 100 + row.pipe(0, 1), 2223);
        for (int k = 1; k < 23; k++) {
            due("the lesser", row.pipe(k, 0), k - 1);
            due("the other", row.pipe(k, 1), k);
            due("the square", row.pipe(k, 2), 4);
        }
        due("the longest", net(map(1000, 1000, 1000, 0, 0, 1000)), "0 1 by 2000000");
    }

    private static void noSuchPipe() {
        WellMap row = rowWithCloseEnd();
        due("the last", row.pipe(22, 2), 4);
        for (int k : new int[] {23, 24, -1, LEAST, MOST, 32, 256}) {
            for (int what = -1; what < 4; what++) due("pipe " + k, row.pipe(k, what), -1);
        }
        for (int what : new int[] {-1, 3, 4, LEAST, MOST, 32, 256}) for (int k = 0; k < 23; k++) due("part " + what, row.pipe(k, what), -1);
        for (int what = 0; what < 3; what++) {
            due("no wells", new WellMap().pipe(0, what), -1);
            due("one", map(10, 10, 5, 5).pipe(0, what), -1);
            due("two have one", map(10, 10, 5, 5, 6, 6).pipe(1, what), -1);
        }
    }

    // ---- 26

    private static void howManyOfTheHull() {
        due("no wells", new WellMap().hull(), 0);
        due("none that counts", noneThatCounts().hull(), 0);
        due("one", map(10, 10, 5, 5).hull(), 1);
        due("two", map(10, 10, 5, 5, 6, 5).hull(), 2);
        due("three on a line", map(10, 10, 5, 5, 6, 5, 7, 5).hull(), 2);
        due("three", map(10, 10, 5, 5, 6, 5, 7, 6).hull(), 3);
        due("five", five().hull(), 4);
        due("24", map(36, 36, roundOf24()).hull(), 24);
        due("three around 21", mostRings().hull(), 3);
        int[] line = new int[48];
        for (int i = 0; i < 48; i++) line[i] = i / 2;
        due("24 on a line", map(100, 100, line).hull(), 2);
    }

    // ---- 27

    private static void whoIsAround() {
        due("five", hull(five()), "0 1 3 2");
        due("one", hull(map(10, 10, 5, 5)), "0");
        due("the last of 24", hull(map(36, 36, roundOf24())).endsWith(" 1"), true);
        due("the first of 24", hull(map(36, 36, roundOf24())).startsWith("0 "), true);
        int seen = 0;
        WellMap m = map(36, 36, roundOf24());
        for (int k = 0; k < 24; k++) seen |= 1 << m.around(k);
        due("all 24", seen, ALL);
    }

    private static void noneAround() {
        for (int k : new int[] {4, 5, -1, LEAST, MOST, 32, 256, 24}) due("around " + k, five().around(k), -1);
        WellMap m = map(36, 36, roundOf24());
        due("the 24th", m.around(23) >= 0, true);
        due("the 25th", m.around(24), -1);
        due("no wells", new WellMap().around(0), -1);
        due("none that counts", noneThatCounts().around(0), -1);
        due("one has no second", map(10, 10, 5, 5).around(1), -1);
        due("a line has no third", map(10, 10, 5, 5, 6, 5, 7, 5).around(2), -1);
    }

    // ---- 28

    private static void theWays() {
        WellMap m = map(100, 60, 10, 20);
        int[][] want = {{-1, 1600, 1600, 1600}, {1600, -1, 32400, 6400}, {1600, 32400, -1, 6400}, {1600, 6400, 6400, -1}};
        for (int from = 0; from < 4; from++) for (int to = 0; to < 4; to++) due(from + " to " + to, m.keep(from, to), want[from][to]);
        m.rectangle(100, 30);
        due("on a lower map", m.keep(2, 3), 400);
        m.undo();
        due("taken back", m.keep(2, 3), 6400);
        due("nothing to keep", map(1, 1, 0, 0, 1, 0, 0, 1, 1, 1).keep(0, 2), 0);
        due("the most", map(1000, 1000, 0, 0).keep(1, 3), 4000000);
    }

    private static void noSuchCorners() {
        WellMap m = five();
        for (int odd : new int[] {-1, 4, 5, LEAST, MOST, LEAST + 1, 32, 256, -4, 65536}) {
            for (int c = 0; c < 4; c++) {
                due("from " + odd, m.keep(odd, c), -1);
                due("to " + odd, m.keep(c, odd), -1);
            }
            due("both " + odd, m.keep(odd, odd), -1);
        }
        for (int c = 0; c < 4; c++) due("the same", m.keep(c, c), -1);
    }

    private static void noWellToKeepFrom() {
        for (int from = 0; from < 4; from++) {
            for (int to = 0; to < 4; to++) {
                due("no wells", new WellMap().keep(from, to), -1);
                due("none that counts", noneThatCounts().keep(from, to), -1);
            }
        }
        WellMap m = noneThatCounts();
        m.season(3);
        due("one counts", m.keep(0, 1), 4 * 7 * 7);
    }

    public static void main(String[] args) throws IOException {
        readDocument();
        clause(18, "How many RINGS there are.", RoundEdgeTest::howManyRings);
        clause(19, "The WELLS of RING k, as bits", RoundEdgeTest::whichRing);
        clause(19, "0 when there is none such", RoundEdgeTest::noSuchRing);
        clause(20, "Of the round of RING k: 0, 1 the middle's x above and below the line, 2, 3 y, 4, 5 the square of the radius.",
                RoundEdgeTest::ofTheRound);
        clause(20, "NONE when there is none such", RoundEdgeTest::ofNoRound);
        clause(21, "LARGEST: 0 to 3 its middle, 4, 5 the square: as for round()", RoundEdgeTest::theLargest);
        clause(21, "NONE without WELLS that COUNT", RoundEdgeTest::noLargest);
        clause(21, "or for others", RoundEdgeTest::noOtherOfLargest);
        clause(22, "The two of the WELLS that COUNT that are nearest to each other", RoundEdgeTest::theClosest);
        clause(22, "the first of several, by the lesser one, then the other one): 0 the lesser, 1 the other one, 2 the square",
                RoundEdgeTest::firstOfSeveralClosest);
        clause(22, "NONE with fewer than two", RoundEdgeTest::noClosest);
        clause(23, "The WELL that COUNTS nearest to a WELL that COUNTS", RoundEdgeTest::theNearest);
        clause(23, "the first of several", RoundEdgeTest::firstOfSeveralNearest);
        clause(23, "NONE without", RoundEdgeTest::noneNearest);
        clause(24, "NET: how many pipes", RoundEdgeTest::howManyPipes);
        clause(25, "Pipe k of the NET, as they were taken: 0 the lesser WELL, 1 the other one, 2 the square", RoundEdgeTest::thePipes);
        clause(25, "NONE when there is none such", RoundEdgeTest::noSuchPipe);
        clause(26, "HULL: how many", RoundEdgeTest::howManyOfTheHull);
        clause(27, "WELL k of the HULL", RoundEdgeTest::whoIsAround);
        clause(27, "NONE when there is none such", RoundEdgeTest::noneAround);
        clause(28, "KEEP", RoundEdgeTest::theWays);
        clause(28, "NONE: no such two corners", RoundEdgeTest::noSuchCorners);
        clause(28, "or without WELLS that COUNT", RoundEdgeTest::noWellToKeepFrom);
        allHeld(18, 28);
        finish();
    }
}
