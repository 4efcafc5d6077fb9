import java.io.IOException;

/** The edges that promises 10 to 17 name, clause by clause: who serves a point, grounds and their borders. */
public final class GroundEdgeTest extends Edges {
    private static final int[] NO_WELL = {-1, 24, 25, 31, 32, LEAST, MOST, LEAST + 1, MOST - 1, 256, 65536, -24};
    private static final int[] NO_PART = {-1, 4, 5, 6, LEAST, MOST, LEAST + 1, 32, 256};
    private static final int ALL = (1 << 24) - 1;

    /** Four wells in the corners of 10 by 10: 0 and 3, as well as 1 and 2, share a point. */
    private static WellMap fourCorners() {
        return map(10, 10, 0, 0, 10, 0, 0, 10, 10, 10);
    }

    /**
     * A ground of as many corners as can be, 27: the four sides of the map, and 23 borders that touch a round which
     * is larger than the map is wide, each at the well behind it.
     */
    private static WellMap mostCorners() {
        WellMap m = map(1000, 1000, 500, 500);
        int square = 320450;
        m.become(0, 1, square);
        int w = 1;
        for (int x = 0; x <= 1000; x++) {
            for (int y = 0; y <= 1000 && w < 24; y++) {
                if ((x - 500) * (x - 500) + (y - 500) * (y - 500) == square) due("sink", m.sink(x, y, 0, 0), w++);
            }
        }
        due("wells", w, 24);
        return m;
    }

    // ---- 10

    private static void whoServes() {
        WellMap m = map(10, 10, 2, 5, 8, 5);
        due("one", m.serves(4, 5, 1), 1);
        due("the other", m.serves(6, 5, 1), 2);
        due("both, below", m.serves(5, 0, 1), 3);
        due("both, above", m.serves(5, 10, 1), 3);
        due("hardly left", m.serves(4999, 5000, 1000), 1);
        due("hardly right", m.serves(5001, 5000, 1000), 2);
        due("not in lowest terms", m.serves(500, 500, 100), 3);
        due("the last well", map(36, 36, roundOf24()).serves(36, 19, 1), 1 << 23);
        due("the first", map(36, 36, roundOf24()).serves(0, 17, 1), 1);
        due("all", map(36, 36, roundOf24()).serves(18, 18, 1), ALL);
    }

    private static void whatItIsOver() {
        WellMap m = map(10, 20, 5, 5);
        for (int q : new int[] {1, 2, 3, 999, 1000}) {
            due("0 0", m.serves(0, 0, q), 1);
            due("the last x and y, over " + q, m.serves(10 * q, 20 * q, q), 1);
            due("one more x, over " + q, m.serves(10 * q + 1, 20 * q, q), -1);
            due("one more y, over " + q, m.serves(10 * q, 20 * q + 1, q), -1);
            due("x below 0", m.serves(-1, 0, q), -1);
            due("y below 0", m.serves(0, -1, q), -1);
        }
        WellMap large = map(1000, 1000, 0, 0);
        due("the most", large.serves(1000000, 1000000, 1000), 1);
        due("and one", large.serves(1000001, 1000000, 1000), -1);
        due("and one", large.serves(1000000, 1000001, 1000), -1);
        due("the most over 999", large.serves(999000, 999000, 999), 1);
        due("and one", large.serves(999001, 0, 999), -1);
    }

    private static void withoutAnyThatCounts() {
        due("no well", new WellMap().serves(0, 0, 1), 0);
        WellMap m = map(10, 10, 5, 5, 6, 6);
        m.become(0, 3, 0);
        m.become(1, 4, 14);
        due("none counts", m.serves(5, 5, 1), 0);
        due("no such point goes first", m.serves(11, 5, 1), -1);
        m.season(1);
        due("one counts", m.serves(5, 5, 1), 2);
    }

    private static void noSuchPoint() {
        WellMap m = map(10, 10, 5, 5);
        for (int q : new int[] {0, -1, 1001, 1002, LEAST, MOST, LEAST + 1, 65537, 1 << 20, -1000}) {
            due("over " + q, m.serves(0, 0, q), -1);
            due("over " + q, m.serves(5, 5, q), -1);
            due("next over " + q, m.next(0, 0, q, 0), -1);
        }
        for (int q : new int[] {1, 1000}) {
            for (int odd : new int[] {LEAST, MOST, LEAST + 1, MOST - 1, -1, 10 * q + 1, -10 * q, 1 << 30, -(1 << 30)}) {
                due("x " + odd, m.serves(odd, 0, q), -1);
                due("y " + odd, m.serves(0, odd, q), -1);
                due("both " + odd, m.serves(odd, odd, q), -1);
                due("next x " + odd, m.next(odd, 0, q, 0), -1);
                due("next y " + odd, m.next(0, odd, q, 0), -1);
            }
        }
        due("all odd", m.serves(LEAST, LEAST, LEAST), -1);
        due("all odd", m.serves(MOST, MOST, MOST), -1);
    }

    // ---- 11

    private static void theNext() {
        WellMap m = map(100, 100, 90, 0, 10, 0, 50, 0, 0, 0);
        due("by costs", order(m, 0, 0, 1), "3 1 2 0");
        due("the other way", order(m, 100, 0, 1), "0 2 1 3");
        due("in halves", order(m, 61, 0, 2), "2 1 3 0");
        m.become(0, 1, 8100);
        due("less what is taken off", order(m, 0, 0, 1), "0 3 1 2");
        m.become(0, 1, 8099);
        due("one less", order(m, 0, 0, 1), "3 0 1 2");
        m.become(1, 3, 0);
        due("only those that count", order(m, 0, 0, 1), "3 0 2");
        due("and no more", m.next(0, 0, 1, 3), -1);
    }

    private static void thenByNumbers() {
        WellMap m = map(36, 36, roundOf24());
        for (int k = 0; k < 24; k++) due("all alike", m.next(18, 18, 1, k), k);
        m.become(5, 1, 1);
        due("one less", m.next(18, 18, 1, 0), 5);
        due("then 0", m.next(18, 18, 1, 1), 0);
        due("then 4", m.next(18, 18, 1, 5), 4);
        due("then 6", m.next(18, 18, 1, 6), 6);
        due("then 23", m.next(18, 18, 1, 23), 23);
    }

    private static void noNext() {
        WellMap m = map(36, 36, roundOf24());
        due("the last", m.next(0, 0, 1, 23) >= 0, true);
        for (int k : new int[] {24, 25, -1, -2, LEAST, MOST, 32, 256}) due("k " + k, m.next(18, 18, 1, k), -1);
        due("without wells", new WellMap().next(0, 0, 1, 0), -1);
        WellMap dry = map(10, 10, 1, 1);
        due("one", dry.next(0, 0, 1, 0), 0);
        due("and no other", dry.next(0, 0, 1, 1), -1);
        dry.become(0, 3, 0);
        due("none that counts", dry.next(0, 0, 1, 0), -1);
    }

    private static void nextToNoPoint() {
        WellMap m = map(10, 20, 1, 1);
        for (int q : new int[] {1, 7, 1000}) {
            due("on the map", m.next(10 * q, 20 * q, q, 0), 0);
            due("x", m.next(10 * q + 1, 20 * q, q, 0), -1);
            due("y", m.next(10 * q, 20 * q + 1, q, 0), -1);
            due("x below 0", m.next(-1, 0, q, 0), -1);
            due("y below 0", m.next(0, -1, q, 0), -1);
        }
        for (int q : new int[] {0, -1, 1001, LEAST, MOST}) due("over " + q, m.next(0, 0, q, 0), -1);
    }

    // ---- 12

    private static void howManyCorners() {
        WellMap m = mostCorners();
        due("27", m.corners(0), 27);
        due("all about it", m.about(0), ALL - 1);
        for (int w = 1; w < 24; w++) due("border", m.border(0, w), 2);
        WellMap less = map(10, 10, 0, 0, 10, 10);
        due("three", less.corners(0), 3);
        less.become(1, 1, 200);
        due("one", less.corners(0), 1);
        less.become(1, 1, 201);
        due("none", less.corners(0), 0);
        WellMap piece = map(10, 10, 5, 0, 5, 10);
        piece.become(0, 1, 100);
        due("two", piece.corners(1), 2);
        due("four", piece.corners(0), 4);
    }

    private static void noSuchGround() {
        WellMap m = fourCorners();
        for (int w : NO_WELL) due("corners " + w, m.corners(w), -1);
        for (int w = 4; w < 24; w++) due("corners " + w, m.corners(w), -1);
        for (int w = 0; w < 4; w++) for (int v : lookalikes(w)) due("corners " + v, m.corners(v), -1);
        m.fill(2);
        due("filled in", m.corners(2), -1);
        due("its neighbour", m.corners(3), 4);
    }

    private static void cornersOfOneThatDoesNotCount() {
        WellMap m = fourCorners();
        m.become(2, 3, 0);
        due("dry", m.corners(2), 0);
        m.become(2, 4, 4);
        due("seasonal", m.corners(2), 0);
        m.season(2);
        due("in its season", m.corners(2), 4);
        due("counts, but has no ground", map1000().corners(1), 0);
    }

    private static WellMap map1000() {
        WellMap m = map(1000, 1000, 500, 500, 501, 500);
        m.become(0, 1, 1000000);
        return m;
    }

    // ---- 13

    private static void theirParts() {
        WellMap m = map(10, 10, 0, 0, 3, 1, 1, 4);
        due("all", ground(m, 0), "0 0, 5/3 0, 23/22 41/22, 0 17/8");
        long[] want = {23, 22, 41, 22};
        for (int what = 0; what < 4; what++) due("part " + what, m.corner(0, 2, what), want[what]);
        WellMap most = mostCorners();
        due("the first x", fraction(most.corner(0, 0, 0), most.corner(0, 0, 1)), "0");
        due("the 27th is there", most.corner(0, 26, 1) > 0, true);
        due("the 28th is not", most.corner(0, 27, 1), -1);
    }

    private static void noSuchCorner() {
        WellMap m = map(10, 10, 2, 5, 9, 5);
        due("the last", m.corner(0, 3, 2), 10);
        for (int k : new int[] {4, 5, -1, LEAST, MOST, 27, 28, 32, 256}) {
            for (int what = 0; what < 4; what++) due("corner " + k, m.corner(0, k, what), -1);
        }
        for (int what : NO_PART) for (int k = -1; k < 5; k++) due("part " + what, m.corner(0, k, what), -1);
        for (int w : NO_WELL) for (int what = 0; what < 4; what++) due("well " + w, m.corner(w, 0, what), -1);
        due("well 2", m.corner(2, 0, 1), -1);
        m.become(1, 3, 0);
        for (int what = 0; what < 4; what++) due("of a dry one", m.corner(1, 0, what), -1);
        for (int what = 0; what < 4; what++) due("of an empty ground", map1000().corner(1, 0, what), -1);
        WellMap point = map(10, 10, 0, 0, 10, 10);
        point.become(0, 1, 200);
        due("of a point", point.corner(1, 0, 0), 10);
        due("of a point the second", point.corner(1, 1, 0), -1);
        WellMap piece = map(10, 10, 5, 0, 5, 10);
        piece.become(0, 1, 100);
        due("of a piece the second", piece.corner(1, 1, 0), 10);
        due("of a piece the third", piece.corner(1, 2, 0), -1);
        due("none at all", new WellMap().corner(0, 0, 0), -1);
        WellMap[] some = {fourCorners(), map(36, 36, roundOf24()), mostCorners(), map(10, 10, 10, 10, 0, 0, 9, 1)};
        for (WellMap one : some) {
            for (int w = 0; w < one.count(0); w++) {
                int n = one.corners(w);
                due("the last of " + w, n == 0 || one.corner(w, n - 1, 3) > 0, true);
                due("before the first of " + w, one.corner(w, -1, 3), -1);
                due("after the last of " + w, one.corner(w, n, 3), -1);
            }
        }
    }

    // ---- 14

    private static void whetherBeside() {
        WellMap m = fourCorners();
        int[][] want = {{-1, 1, 1, 0}, {1, -1, 0, 1}, {1, 0, -1, 1}, {0, 1, 1, -1}};
        for (int v = 0; v < 4; v++) for (int w = 0; w < 4; w++) due(v + " beside " + w, m.beside(v, w), want[v][w]);
        WellMap all = map(36, 36, roundOf24());
        int pairs = 0;
        for (int v = 0; v < 24; v++) for (int w = 0; w < v; w++) pairs += all.beside(v, w);
        due("each has two neighbours on a round", pairs, 24);
    }

    private static void noSuchTwo() {
        WellMap m = fourCorners();
        m.become(1, 3, 0);
        for (int w : NO_WELL) {
            due("beside " + w, m.beside(0, w), -1);
            due("beside " + w, m.beside(w, 0), -1);
            due("both " + w, m.beside(w, w), -1);
        }
        for (int w = 4; w < 24; w++) due("beside " + w, m.beside(0, w), -1);
        for (int w = 0; w < 4; w++) due("itself", m.beside(w, w), -1);
        for (int v : lookalikes(3)) due("beside " + v, m.beside(0, v), -1);
        due("not there, dry", m.beside(1, 9), -1);
        m.fill(3);
        due("filled in", m.beside(2, 3), -1);
        due("filled in", m.beside(3, 2), -1);
        due("dry, but there", m.beside(0, 1), 0);
        due("dry, but there", m.beside(1, 0), 0);
        m.become(0, 3, 0);
        due("both dry", m.beside(0, 1), 0);
    }

    // ---- 15

    private static void howManyEnds() {
        WellMap m = fourCorners();
        int[][] want = {{-1, 2, 2, 1}, {2, -1, 1, 2}, {2, 1, -1, 2}, {1, 2, 2, -1}};
        for (int v = 0; v < 4; v++) for (int w = 0; w < 4; w++) due("border " + v + " " + w, m.border(v, w), want[v][w]);
        due("nothing shared", map(10, 10, 0, 5, 5, 5, 10, 5).border(0, 2), 0);
        m.become(1, 1, 1);
        due("parted", m.border(0, 3), 0);
        due("joined", m.border(1, 2), 2);
        WellMap all = map(36, 36, roundOf24());
        for (int w = 1; w < 24; w++) due("all meet at least in the middle", all.border(0, w) >= 1, true);
    }

    private static void noBorderLikewise() {
        WellMap m = fourCorners();
        m.become(1, 3, 0);
        for (int w : NO_WELL) {
            due("border " + w, m.border(0, w), -1);
            due("border " + w, m.border(w, 0), -1);
            due("both " + w, m.border(w, w), -1);
        }
        for (int w = 4; w < 24; w++) due("border " + w, m.border(0, w), -1);
        for (int w = 0; w < 4; w++) due("itself", m.border(w, w), -1);
        for (int v : lookalikes(3)) due("border " + v, m.border(0, v), -1);
        due("dry, but there", m.border(0, 1), 0);
        due("dry, but there", m.border(1, 0), 0);
        m.fill(3);
        due("filled in", m.border(2, 3), -1);
    }

    // ---- 16

    private static void theEnds() {
        WellMap m = map(10, 10, 0, 0, 3, 1, 1, 4);
        due("0 1", border(m, 0, 1), "23/22 41/22, 5/3 0");
        due("1 0", border(m, 1, 0), "23/22 41/22, 5/3 0");
        due("0 2", border(m, 0, 2), "0 17/8, 23/22 41/22");
        due("a point", border(fourCorners(), 1, 2), "5 5");
        due("asked at once", fourCorners().end(0, 1, 1, 2), 5);
        due("of a point the second", fourCorners().end(1, 2, 1, 0), -1);
        due("of nothing the first", map(10, 10, 0, 5, 5, 5, 10, 5).end(0, 2, 0, 0), -1);
    }

    private static void noSuchEnd() {
        WellMap m = map(10, 10, 2, 5, 9, 5);
        for (int k : new int[] {2, 3, -1, LEAST, MOST, 32, 256}) {
            for (int what = 0; what < 4; what++) due("end " + k, m.end(0, 1, k, what), -1);
        }
        for (int k = 0; k < 2; k++) for (int what : NO_PART) due("part " + what, m.end(0, 1, k, what), -1);
        for (int k = 0; k < 2; k++) {
            for (int w : NO_WELL) {
                due("end with " + w, m.end(0, w, k, 1), -1);
                due("end of " + w, m.end(w, 0, k, 1), -1);
            }
            due("with itself", m.end(0, 0, k, 1), -1);
            due("with none", m.end(0, 2, k, 1), -1);
        }
        m.become(1, 3, 0);
        due("with a dry one", m.end(0, 1, 0, 1), -1);
        due("of a dry one", m.end(1, 0, 0, 1), -1);
    }

    // ---- 17

    private static void whoIsAbout() {
        WellMap m = fourCorners();
        due("0", m.about(0), 2 + 4);
        due("1", m.about(1), 1 + 8);
        due("2", m.about(2), 1 + 8);
        due("3", m.about(3), 2 + 4);
        due("alone", map(10, 10, 5, 5).about(0), 0);
        due("all 23", mostCorners().about(0), ALL - 1);
        due("from the last", mostCorners().about(23) & 1, 1);
        m.become(2, 3, 0);
        due("of a dry one", m.about(2), 0);
        due("without a dry one", m.about(0), 2 + 8);
        m.become(2, 4, 8);
        due("of one of another season", m.about(2), 0);
        m.season(3);
        due("in its season", m.about(2), 1 + 8);
        due("of an empty ground", map1000().about(1), 0);
    }

    private static void aboutNoWell() {
        WellMap m = fourCorners();
        for (int w : NO_WELL) due("about " + w, m.about(w), -1);
        for (int w = 4; w < 24; w++) due("about " + w, m.about(w), -1);
        for (int w = 0; w < 4; w++) for (int v : lookalikes(w)) due("about " + v, m.about(v), -1);
        m.fill(1);
        due("filled in", m.about(1), -1);
        due("no longer about", m.about(0), 4 + 8);
    }

    public static void main(String[] args) throws IOException {
        readDocument();
        clause(10, "Which WELLS serve x / q, y / q", GroundEdgeTest::whoServes);
        clause(10, "q 1 .. 1000, the point on THE MAP), as bits", GroundEdgeTest::whatItIsOver);
        clause(10, "0 without WELLS that COUNT", GroundEdgeTest::withoutAnyThatCounts);
        clause(10, "NONE: no such point", GroundEdgeTest::noSuchPoint);
        clause(11, "The k-th WELL (k from 0 on) of those that COUNT, by their COSTS for x / q, y / q", GroundEdgeTest::theNext);
        clause(11, "then by their numbers", GroundEdgeTest::thenByNumbers);
        clause(11, "NONE when there is none such", GroundEdgeTest::noNext);
        clause(11, "or no such point", GroundEdgeTest::nextToNoPoint);
        clause(12, "How many CORNERS the GROUND of a WELL has", GroundEdgeTest::howManyCorners);
        clause(12, "NONE when there is none such", GroundEdgeTest::noSuchGround);
        clause(12, "one that does not COUNT: 0", GroundEdgeTest::cornersOfOneThatDoesNotCount);
        clause(13, "CORNER k: 0, 1 x above and below the line, 2, 3 y.", GroundEdgeTest::theirParts);
        clause(13, "NONE when there is none such", GroundEdgeTest::noSuchCorner);
        clause(14, "Whether two WELLS are BESIDE each other: 1, 0", GroundEdgeTest::whetherBeside);
        clause(14, "NONE when there are no such two", GroundEdgeTest::noSuchTwo);
        clause(15, "BORDER: how many ENDS it has: 2, 1 (a point), 0", GroundEdgeTest::howManyEnds);
        clause(15, "NONE likewise", GroundEdgeTest::noBorderLikewise);
        clause(16, "END k (0, 1) of a BORDER", GroundEdgeTest::theEnds);
        clause(16, "as for corner()", GroundEdgeTest::noSuchEnd);
        clause(17, "Which WELLS are BESIDE a WELL, as bits", GroundEdgeTest::whoIsAbout);
        clause(17, "NONE when there is none such", GroundEdgeTest::aboutNoWell);
        allHeld(10, 17);
        finish();
    }
}
