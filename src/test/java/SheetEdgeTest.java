import java.io.IOException;

/** The edges that promises 29 to 32 name, clause by clause: sheets, and what can be taken back. */
public final class SheetEdgeTest extends Edges {
    private static final int[] NO_SHEET = {-1, 8, 9, 15, 32, LEAST, MOST, LEAST + 1, 256, 65536};

    /** A map with as many plain wells, in a row at the top. */
    private static WellMap withWells(int many) {
        WellMap m = new WellMap();
        for (int w = 0; w < many; w++) m.sink(w, 100, 0, 0);
        return m;
    }

    /** A sheet of n wells to be in a row at the bottom, deep ones with 1, 2, .. taken off. */
    private static void write(WellMap m, int s, int n) {
        due("sheet", m.sheet(s, n), true);
        for (int k = 0; k < n; k++) due("line", m.line(s, k, k, 0, 1, k + 1), true);
    }

    private static String wells(WellMap m) {
        StringBuilder text = new StringBuilder();
        for (int w = 0; w < 24; w++) {
            if (m.well(w, 2) >= 0) text.append(w).append(": ").append(m.well(w, 0)).append(' ').append(m.well(w, 1)).append(' ').append(m.well(w, 2)).append("; ");
        }
        return text.toString();
    }

    // ---- 29

    private static void wellsToBe() {
        for (int s = 0; s < 8; s++) {
            for (int n = 0; n <= 8; n++) {
                WellMap m = new WellMap();
                due("sheet", m.sheet(s, n), true);
                for (int k = -1; k < 10; k++) due("line " + k + " of " + n, m.line(s, k, k, 1, 0, 0), k >= 0 && k < n);
                due("lay", m.lay(s), n);
                due("no change but lay", m.count(2), 1);
            }
        }
    }

    private static void allNought() {
        WellMap m = new WellMap();
        write(m, 2, 8);
        due("anew", m.sheet(2, 1), true);
        due("lay", m.lay(2), 1);
        due("at 0 0", wells(m), "0: 0 0 0; ");
        due("nothing off", m.ask(0, 0), -2);
        due("taken back", m.undo(), 0);
        write(m, 2, 8);
        due("shorter", m.sheet(2, 0), true);
        due("longer", m.sheet(2, 8), true);
        due("the second stands where the first does", m.lay(2), -3);
        for (int k = 1; k < 8; k++) m.line(2, k, k, 7, 0, 0);
        due("all but the first were written anew", m.lay(2), 8);
        due("the first is nought", m.well(0, 0) + m.well(0, 1) + m.well(0, 2), 0);
        write(m, 3, 8);
        due("the same length", m.sheet(3, 8), true);
        due("is anew too", m.lay(3), -2);
        due("other sheets stay", m.sheet(4, 3), true);
        due("for all that", m.lay(2), -2);
    }

    private static void missing() {
        WellMap m = new WellMap();
        write(m, 0, 3);
        due("gone", m.sheet(0, -1), true);
        due("lay", m.lay(0), -1);
        for (int k = -1; k < 9; k++) due("line", m.line(0, k, 1, 1, 0, 0), false);
        due("gone once more", m.sheet(0, WellMap.NONE), true);
        due("was missing at first", m.sheet(7, -1), true);
        due("back", m.sheet(0, 2), true);
        due("all nought", m.lay(0), -3);
        due("no change", m.count(2), 0);
    }

    private static void sheetsThatCantBe() {
        WellMap m = new WellMap();
        write(m, 5, 2);
        for (int s : NO_SHEET) for (int n : new int[] {-1, 0, 1, 8}) due("sheet " + s, m.sheet(s, n), false);
        for (int s = 0; s < 8; s++) for (int n : new int[] {-2, 9, 10, LEAST, MOST, LEAST + 1, 32, 256, 65536}) due("of " + n, m.sheet(s, n), false);
        for (int s = 0; s < 8; s++) if (s != 5) due("still missing", m.lay(s), -1);
        due("still as it was", m.lay(5), 2);
        due("its wells", wells(m), "0: 0 0 1; 1: 1 0 1; ");
    }

    // ---- 30

    private static void anyFour() {
        int[] odd = {LEAST, MOST, -1, 0, 1, LEAST + 1, MOST - 1, 1000001};
        WellMap m = new WellMap();
        m.sheet(0, 3);
        m.line(0, 0, 5, 5, 0, 0);
        m.line(0, 2, 6, 6, 0, 0);
        for (int a : odd) {
            due("x " + a, m.line(0, 1, a, 1, 0, 0), true);
            due("y " + a, m.line(0, 1, 1, a, 0, 0), true);
            due("kind " + a, m.line(0, 1, 1, 1, a, 0), true);
            due("number " + a, m.line(0, 1, 1, 1, 0, a), true);
            due("all " + a, m.line(0, 1, a, a, a, a), true);
        }
        due("can't be sunk", m.lay(0), -3);
        int[][] cant = {{101, 1, 0, 0}, {-1, 1, 0, 0}, {1, 101, 0, 0}, {1, -1, 0, 0}, {1, 1, -1, 0}, {1, 1, 5, 0}, {1, 1, 0, 1},
            {1, 1, 1, -1}, {1, 1, 1, 1000001}, {1, 1, 2, 1000000}, {1, 1, 3, 1}, {1, 1, 4, 0}, {1, 1, 4, 16}, {LEAST, 1, 0, 0},
            {1, MOST, 0, 0}, {1, 1, LEAST, 0}, {1, 1, 1, MOST}, {5, 5, 0, 0}};
        for (int[] c : cant) {
            due("line", m.line(0, 1, c[0], c[1], c[2], c[3]), true);
            due("lay with " + c[0] + " " + c[1] + " " + c[2] + " " + c[3], m.lay(0), -3);
            due("none", m.count(0), 0);
        }
        due("at last", m.line(0, 1, 100, 100, 4, 15), true);
        due("lay", m.lay(0), 3);
        due("in order", wells(m), "0: 5 5 0; 1: 100 100 4; 2: 6 6 0; ");
    }

    private static void noSuchLine() {
        WellMap m = new WellMap();
        write(m, 3, 4);
        for (int s : NO_SHEET) due("sheet " + s, m.line(s, 0, 9, 9, 0, 0), false);
        for (int s = 0; s < 8; s++) if (s != 3) due("missing", m.line(s, 0, 9, 9, 0, 0), false);
        for (int k : new int[] {-1, 4, 5, 7, 8, LEAST, MOST, 32, 256, -8}) due("line " + k, m.line(3, k, 9, 9, 0, 0), false);
        m.sheet(2, 8);
        due("not the next sheet's first", m.line(2, 8, 9, 9, 0, 0), false);
        m.sheet(4, 0);
        due("of an empty one", m.line(4, 0, 9, 9, 0, 0), false);
        due("not the last sheet's last", m.line(4, -1, 9, 9, 0, 0), false);
        due("all as it was", m.lay(3), 4);
        due("wells", wells(m), "0: 0 0 1; 1: 1 0 1; 2: 2 0 1; 3: 3 0 1; ");
        due("no change but lay", m.count(2), 1);
    }

    // ---- 31

    private static void inOrder() {
        WellMap m = withWells(10);
        m.fill(7);
        m.fill(2);
        m.fill(4);
        write(m, 1, 5);
        due("five", m.lay(1), 5);
        int[] numbers = {2, 4, 7, 10, 11};
        for (int k = 0; k < 5; k++) due("the least that is free", m.ask(numbers[k], 0), k + 1);
        due("wells", m.count(0), 12);
        WellMap most = withWells(16);
        write(most, 7, 8);
        due("to 24", most.lay(7), 8);
        due("24", most.count(0), 24);
        due("the last", most.ask(23, 0), 8);
        due("the sheet stays", most.lay(7), -2);
        due("taken back", most.undo(), 7);
        due("and laid again", most.lay(7), 8);
    }

    private static void orNone() {
        for (int bad = 0; bad < 8; bad++) {
            WellMap m = withWells(3);
            write(m, 0, 8);
            m.line(0, bad, 101, 0, 0, 0);
            due("lay", m.lay(0), -2 - bad);
            due("wells", m.count(0), 3);
            due("changes", m.count(2), 3);
            due("places are free", m.sink(0, 0, 0, 0), 3);
        }
    }

    private static void oneChange() {
        for (int n = 0; n <= 8; n++) {
            WellMap m = withWells(2);
            write(m, 6, n);
            due("how many", m.lay(6), n);
            due("one change", m.count(2), 3);
            due("wells", m.count(0), 2 + n);
            due("taken back at once", m.undo(), 2);
            due("wells", m.count(0), 2);
        }
        WellMap full = withWells(24);
        full.sheet(0, 0);
        due("none into a full map", full.lay(0), 0);
        due("eight changes", full.count(2), 8);
        due("taken back", full.undo(), 7);
        due("still full", full.count(0), 24);
        due("then the last well", full.undo(), 6);
        due("is gone", full.count(0), 23);
    }

    private static void noSuchSheet() {
        WellMap m = withWells(2);
        for (int s : NO_SHEET) due("lay " + s, m.lay(s), -1);
        for (int s = 0; s < 8; s++) due("missing " + s, m.lay(s), -1);
        for (int s = 0; s < 8; s++) {
            write(m, s, 1);
            due("there " + s, m.lay(s), 1);
            m.undo();
            m.sheet(s, -1);
            due("missing again " + s, m.lay(s), -1);
        }
        due("changes", m.count(2), 2);
        due("full, and missing", withWells(24).lay(0), -1);
    }

    private static void whichCantBeSunk() {
        // Of several the first is told; no room, one at that place and one before it on the sheet are told alike.
        for (int room = 0; room < 8; room++) {
            WellMap m = withWells(24 - room);
            write(m, 0, 8);
            due("room for " + room, m.lay(0), -2 - room);
            due("wells", m.count(0), 24 - room);
            write(m, 1, room);
            due("just room", m.lay(1), room);
        }
        for (int k = 0; k < 8; k++) {
            WellMap m = withWells(3);
            write(m, 0, 8);
            m.line(0, k, 2, 100, 0, 0);
            due("a well at the place of line " + k, m.lay(0), -2 - k);
            m.become(2, 3, 0);
            due("a dry one too", m.lay(0), -2 - k);
            m.fill(2);
            due("filled in", m.lay(0), 8);
        }
        for (int k = 1; k < 8; k++) {
            for (int before = 0; before < k; before++) {
                WellMap m = new WellMap();
                write(m, 0, 8);
                m.line(0, k, before, 0, 0, 0);
                due("line " + k + " at the place of line " + before, m.lay(0), -2 - k);
            }
        }
        WellMap m = withWells(3);
        write(m, 0, 8);
        m.line(0, 6, 0, 0, 9, 0);
        m.line(0, 3, 0, 100, 0, 0);
        due("the first of several", m.lay(0), -5);
        m.rectangle(50, 100);
        m.line(0, 3, 51, 0, 0, 0);
        due("off a smaller map", m.lay(0), -5);
        m.line(0, 3, 50, 0, 0, 0);
        due("then the next", m.lay(0), -8);
    }

    // ---- 32

    private static void eachChange() {
        WellMap sink = withWells(1);
        due("sink", sink.undo(), 0);
        due("gone", wells(sink), "");
        WellMap fill = withWells(2);
        fill.become(1, 1, 77);
        fill.fill(1);
        due("fill", fill.undo(), 3);
        due("back", wells(fill), "0: 0 100 0; 1: 1 100 1; ");
        due("with its number", fill.ask(1, 0), 77);
        WellMap become = withWells(1);
        become.become(0, 2, 123);
        become.become(0, 4, 9);
        due("become", become.undo(), 2);
        due("its word", become.ask(0, 1), 123);
        due("become", become.undo(), 1);
        due("plain", become.well(0, 2), 0);
        WellMap lay = withWells(1);
        write(lay, 0, 3);
        lay.lay(0);
        due("lay", lay.undo(), 1);
        due("wells", wells(lay), "0: 0 100 0; ");
        WellMap rectangle = withWells(1);
        rectangle.rectangle(5, 1000);
        due("rectangle", rectangle.undo(), 1);
        due("100 wide", rectangle.serves(100, 100, 1), 1);
        due("100 high", rectangle.serves(0, 101, 1), -1);
        due("ground", ground(rectangle, 0), "0 0, 100 0, 100 100, 0 100");
    }

    private static void noChanges() {
        WellMap m = withWells(2);
        m.season(3);
        write(m, 0, 2);
        m.sheet(1, 0);
        due("season, sheet and line are none", m.count(2), 2);
        due("undo", m.undo(), 1);
        due("the season stays", m.season(0), 3);
        due("the sheet stays", m.lay(0), 2);
        due("it is a change", m.undo(), 1);
        due("the other sheet stays", m.lay(1), 0);
        due("the season was turned to 0", m.season(2), 0);
    }

    private static void theLatestEight() {
        for (int done = 0; done <= 24; done++) {
            WellMap m = withWells(done);
            int kept = Math.min(done, 8);
            due("changes", m.count(2), kept);
            for (int i = 1; i <= kept; i++) {
                due("undo " + i + " of " + done, m.undo(), kept - i);
                due("wells", m.count(0), done - i);
                due("the last one's place", m.well(done - i - 1, 0), done - i - 1);
                due("the last one is gone", m.well(done - i, 0), -1);
            }
            due("no more", m.undo(), -1);
            due("wells that stay", m.count(0), done - kept);
        }
    }

    /** Changes and undos in turn, so that the eight that are kept go round. */
    private static void roundAndRound() {
        WellMap m = new WellMap();
        int high = 100;
        int[] before = new int[9];
        int many = 0;
        for (int i = 0; i < 100; i++) {
            if (i % 7 < 4) {
                if (many == 8) System.arraycopy(before, 1, before, 0, 8);
                many = Math.min(many, 7);
                before[many++] = high;
                high = 200 + i;
                due("rectangle", m.rectangle(100, high), true);
            } else if (many > 0) {
                high = before[--many];
                due("undo", m.undo(), many);
            } else {
                due("undo", m.undo(), -1);
            }
            due("high", m.serves(0, high, 1), 0);
            due("not higher", m.serves(0, high + 1, 1), -1);
            due("changes", m.count(2), many);
        }
    }

    private static void undoIsNoChange() {
        WellMap m = withWells(3);
        due("one", m.undo(), 2);
        due("two", m.undo(), 1);
        due("another way", m.sink(50, 50, 3, 0), 1);
        due("changes", m.count(2), 2);
        due("back", m.undo(), 1);
        due("wells", wells(m), "0: 0 100 0; ");
        due("back", m.undo(), 0);
        due("none", m.undo(), -1);
        due("none again", m.undo(), -1);
        due("wells", wells(m), "");
    }

    private static void nothingToTakeBack() {
        WellMap m = new WellMap();
        due("new", m.undo(), -1);
        m.sink(-1, 0, 0, 0);
        m.fill(0);
        m.become(0, 0, 0);
        m.rectangle(0, 0);
        m.lay(0);
        m.season(1);
        m.sheet(0, 1);
        m.line(0, 0, 101, 0, 0, 0);
        m.lay(0);
        due("nothing was done", m.undo(), -1);
        due("changes", m.count(2), 0);
        m.sink(1, 1, 0, 0);
        due("one", m.undo(), 0);
        due("no more", m.undo(), -1);
    }

    public static void main(String[] args) throws IOException {
        readDocument();
        clause(29, "SHEET s has n (0 .. 8) WELLS to be", SheetEdgeTest::wellsToBe);
        clause(29, "all 0 0 0 0", SheetEdgeTest::allNought);
        clause(29, "(n NONE: it is missing): true", SheetEdgeTest::missing);
        clause(29, "false when that can't be", SheetEdgeTest::sheetsThatCantBe);
        clause(30, "WELL to be k of a SHEET: any four numbers", SheetEdgeTest::anyFour);
        clause(30, "false when there is none such", SheetEdgeTest::noSuchLine);
        clause(31, "All of a SHEET are sunk, in order", SheetEdgeTest::inOrder);
        clause(31, "or none", SheetEdgeTest::orNone);
        clause(31, "how many (one change, with 0, too)", SheetEdgeTest::oneChange);
        clause(31, "NONE: no such SHEET, or it is missing", SheetEdgeTest::noSuchSheet);
        clause(31, "-2 - k: the k-th can't be sunk", SheetEdgeTest::whichCantBeSunk);
        clause(32, "The latest change that was done", SheetEdgeTest::undoIsNoChange);
        clause(32, "sink(), fill(), become(), lay(), rectangle()", SheetEdgeTest::eachChange);
        clause(32, "(sink(), fill(), become(), lay(), rectangle();", SheetEdgeTest::noChanges);
        clause(32, "the latest eight", SheetEdgeTest::theLatestEight);
        clause(32, "is taken back: how many more can be", SheetEdgeTest::roundAndRound);
        clause(32, "NONE when there is none", SheetEdgeTest::nothingToTakeBack);
        allHeld(29, 32);
        finish();
    }
}
