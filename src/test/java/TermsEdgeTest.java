import java.io.IOException;
import java.math.BigInteger;
import java.util.Random;

/** The edges that the terms name, clause by clause. */
public final class TermsEdgeTest extends Edges {
    private static final int[][] SIZES = {{1, 1}, {1, 1000}, {1000, 1}, {1000, 1000}, {100, 100}, {7, 3}};
    private static final int[] LEAST_NUMBER = {0, 0, 0, 0, 1};
    private static final int[] MOST_NUMBER = {0, 1000000, 999999, 0, 15};

    // ---- I

    private static void aRectangle() {
        for (int[] size : SIZES) {
            int w = size[0];
            int h = size[1];
            int[][] on = {{0, 0}, {w, 0}, {w, h}, {0, h}};
            int[][] off = {{-1, 0}, {0, -1}, {w + 1, 0}, {0, h + 1}, {w + 1, h + 1}, {-1, -1}, {w, h + 1}, {w + 1, h}, {-1, h}, {w, -1}};
            for (int[] p : on) {
                WellMap m = map(w, h);
                due("serves at " + p[0] + " " + p[1], m.serves(p[0], p[1], 1), 0);
                due("sink at " + p[0] + " " + p[1], m.sink(p[0], p[1], 0, 0), 0);
                due("next at " + p[0] + " " + p[1], m.next(p[0], p[1], 1, 0), 0);
            }
            for (int[] p : off) {
                WellMap m = map(w, h);
                due("serves at " + p[0] + " " + p[1], m.serves(p[0], p[1], 1), -1);
                due("sink at " + p[0] + " " + p[1], m.sink(p[0], p[1], 0, 0), -1);
                due("next at " + p[0] + " " + p[1], m.next(p[0], p[1], 1, 0), -1);
                due("nothing was sunk", m.count(0), 0);
            }
        }
        due("the ground of one well is all of it", ground(map(7, 3, 2, 2), 0), "0 0, 7 0, 7 3, 0 3");
    }

    private static void sizes() {
        for (int side : new int[] {1, 2, 999, 1000}) {
            due("wide " + side, new WellMap().rectangle(side, 100), true);
            due("high " + side, new WellMap().rectangle(100, side), true);
        }
        for (int side : new int[] {0, -1, 1001, 1002, LEAST, MOST, LEAST + 1, LEAST + 100, -100}) {
            due("wide " + side, new WellMap().rectangle(side, 100), false);
            due("high " + side, new WellMap().rectangle(100, side), false);
        }
    }

    private static void firstSizes() {
        WellMap m = new WellMap();
        due("100 100", m.serves(100, 100, 1), 0);
        due("101 100", m.serves(101, 100, 1), -1);
        due("100 101", m.serves(100, 101, 1), -1);
        due("sink", m.sink(100, 100, 0, 0), 0);
        due("ground", ground(m, 0), "0 0, 100 0, 100 100, 0 100");
    }

    private static void twentyFour() {
        WellMap m = new WellMap();
        for (int w = 0; w < 24; w++) {
            due("well before", m.well(w, 0), -1);
            due("sink", m.sink(w, 5, 0, 0), w);
            due("well after", m.well(w, 0), w);
        }
        due("one more", m.sink(24, 5, 0, 0), -3);
        due("24", m.well(24, 0), -1);
        due("-1", m.well(-1, 0), -1);
        due("first", m.well(0, 0), 0);
        due("last", m.well(23, 0), 23);
    }

    private static void noTwoAtOnePlace() {
        int[][] kinds = {{0, 0}, {1, 7}, {2, 7}, {3, 0}, {4, 15}, {4, 2}};
        for (int[] first : kinds) {
            for (int[] second : kinds) {
                WellMap m = new WellMap();
                due("first", m.sink(40, 60, first[0], first[1]), 0);
                due("second", m.sink(40, 60, second[0], second[1]), -2);
                due("one", m.count(0), 1);
                due("x beside", m.sink(41, 60, second[0], second[1]), 1);
                due("y beside", m.sink(40, 61, second[0], second[1]), 2);
                due("x and y the other way round", m.sink(60, 40, second[0], second[1]), 3);
                due("the same x", m.sink(40, 0, second[0], second[1]), 4);
                due("the same y", m.sink(0, 60, second[0], second[1]), 5);
                due("filled in", m.fill(0), 5);
                due("free again", m.sink(40, 60, second[0], second[1]), 0);
            }
        }
    }

    /** The numbers of a kind, by each of the three ways to a well. */
    private static void numbers(int kind) {
        for (int number : new int[] {LEAST_NUMBER[kind], MOST_NUMBER[kind]}) dueNumber(kind, number, true);
        for (int number : new int[] {LEAST_NUMBER[kind] - 1, MOST_NUMBER[kind] + 1, LEAST, MOST, LEAST + MOST_NUMBER[kind]}) {
            dueNumber(kind, number, false);
        }
    }

    private static void dueNumber(int kind, int number, boolean can) {
        String what = "kind " + kind + " number " + number;
        due("sink " + what, new WellMap().sink(5, 6, kind, number), can ? 0 : -1);
        WellMap m = new WellMap();
        m.sink(5, 6, 2, 8);
        due("become " + what, m.become(0, kind, number), can ? 2 : -1);
        due("kind now, " + what, m.well(0, 2), can ? kind : 2);
        m.sheet(0, 1);
        due("line " + what, m.line(0, 0, 9, 9, kind, number), true);
        due("lay " + what, m.lay(0), can ? 1 : -2);
        if (kind == 1) due("what is taken off", m.ask(0, 0), can ? number : -2);
        if (kind == 2) due("word", m.ask(0, 1), can ? number : 8);
        if (kind == 4) due("seasons", m.ask(0, 3), can ? number : -2);
    }

    private static void noOtherKinds() {
        for (int kind : new int[] {-1, 5, 6, LEAST, MOST, LEAST + 1, 256, 32, 65536}) {
            for (int number : new int[] {0, 1, -1}) {
                due("sink", new WellMap().sink(5, 6, kind, number), -1);
                WellMap m = map(10, 10, 5, 6);
                due("become", m.become(0, kind, number), -1);
                due("still plain", m.well(0, 2), 0);
            }
        }
    }

    private static void seasons() {
        due("0 at first", new WellMap().season(0), 0);
        due("0 at first, turned to 3", new WellMap().season(3), 0);
        WellMap m = new WellMap();
        int before = 0;
        for (int s : new int[] {3, 0, 1, 1, 2, 3, 2, 0}) {
            due("season " + s, m.season(s), before);
            before = s;
        }
        for (int s : new int[] {-1, 4, LEAST, MOST, LEAST + 1, 32, -32}) due("season " + s, m.season(s), -1);
        due("still 0", m.season(0), 0);
    }

    private static void whoCounts() {
        int[][] always = {{0, 0}, {1, 0}, {1, 1000000}, {2, 0}, {2, 999999}};
        for (int season = 0; season < 4; season++) {
            for (int[] kind : always) dueCounts(kind[0], kind[1], season, true);
            dueCounts(3, 0, season, false);
            for (int bits = 1; bits <= 15; bits++) dueCounts(4, bits, season, (bits >> season) % 2 == 1);
        }
    }

    private static void dueCounts(int kind, int number, int season, boolean counts) {
        String what = "kind " + kind + " number " + number + " season " + season;
        for (int order = 0; order < 2; order++) {
            WellMap m = new WellMap();
            if (order == 0) m.season(season);
            m.sink(30, 40, kind, number);
            if (order == 1) m.season(season);
            due("well, " + what, m.well(0, 3), counts ? 1 : 0);
            due("count, " + what, m.count(1), counts ? 1 : 0);
            due("wells, " + what, m.count(0), 1);
            due("serves, " + what, m.serves(1, 1, 1), counts ? 1 : 0);
            due("next, " + what, m.next(1, 1, 1, 0), counts ? 0 : -1);
            due("corners, " + what, m.corners(0), counts ? 4 : 0);
            due("hull, " + what, m.hull(), counts ? 1 : 0);
            due("keep, " + what, m.keep(0, 2), counts ? 4 * 40 * 40 : -1);
            due("largest, " + what, m.largest(4), counts ? 70 * 70 + 60 * 60 : -1);
        }
    }

    private static void cost() {
        WellMap m = map(1000, 1000, 0, 0, 1000, 0);
        m.become(1, 1, 1000000);
        due("as much off as the square", m.serves(0, 0, 1), 3);
        m.become(1, 1, 999999);
        due("one less", m.serves(0, 0, 1), 1);
        due("but not far from there", m.serves(1, 0, 1000), 2);
        m.become(0, 1, 1000000);
        m.become(1, 1, 0);
        due("costs below 0", order(m, 0, 0, 1), "0 1");
        due("the same cost at the other end", order(m, 1000, 0, 1), "0 1");
        due("both serve it", m.serves(1000, 0, 1), 3);
        m.become(1, 2, 999999);
        due("a word takes nothing off", m.serves(999, 0, 1), 1);
        m.become(1, 4, 15);
        due("nor do seasons", m.serves(999, 0, 1), 1);
        WellMap far = map(1000, 1000, 0, 0, 1000, 1000, 0, 1000);
        far.become(0, 1, 1000000);
        due("the farthest there is, costs 1000000 and 0 and 1000000", order(far, 1000, 1000, 1), "1 0 2");
        due("costs -1000000", order(far, 0, 0, 1), "0 2 1");
        far.become(0, 1, 999999);
        due("one more than 1000000", order(far, 1000, 1000, 1), "1 2 0");
        due("in thousandths", order(far, 1000000, 999999, 1000), "1 0 2");
    }

    private static void whoServes() {
        WellMap m = map(36, 36, roundOf24());
        due("all 24", m.serves(18, 18, 1), (1 << 24) - 1);
        due("all 24, in thousandths", m.serves(18000, 18000, 1000), (1 << 24) - 1);
        m.become(7, 3, 0);
        due("but a dry one", m.serves(18, 18, 1), (1 << 24) - 1 - (1 << 7));
        m.become(7, 1, 1);
        due("one alone has less", m.serves(18, 18, 1), 1 << 7);
        m.become(7, 4, 14);
        due("not in this season", m.serves(18, 18, 1), (1 << 24) - 1 - (1 << 7));
        WellMap dry = map(10, 10, 1, 1, 9, 9);
        dry.become(0, 3, 0);
        due("a dry one with a lesser cost hinders none", dry.serves(1, 1, 1), 2);
    }

    /** At points on a fine net: a well serves the point if, and only if, its ground holds it. */
    private static void allPointsServed() {
        Random dice = new Random(5);
        for (int round = 0; round < 60; round++) {
            WellMap m = map(8, 6);
            for (int i = 0; i < 7; i++) m.sink(dice.nextInt(9), dice.nextInt(7), dice.nextInt(2), 0);
            for (int w = 0; w < 7; w++) if (m.well(w, 2) == 1) m.become(w, 1, dice.nextInt(20));
            int q = 1 + dice.nextInt(7);
            for (int w = 0; w < m.count(0); w++) dueHolds(m, w, q);
        }
    }

    private static void dueHolds(WellMap m, int w, int q) {
        int n = m.corners(w);
        if (n < 3) return;
        for (int x = 0; x <= 8 * q; x++) {
            for (int y = 0; y <= 6 * q; y++) {
                BigInteger[] p = {BigInteger.valueOf(x), BigInteger.valueOf(y), BigInteger.valueOf(q)};
                boolean within = true;
                for (int k = 0; k < n; k++) within &= leftOf(m, w, k, (k + 1) % n, p) >= 0;
                due("serves " + x + " " + y + " " + q, m.serves(x, y, q) >> w & 1, within ? 1 : 0);
            }
        }
    }

    private static BigInteger big(WellMap m, int w, int k, int what) {
        return BigInteger.valueOf(m.corner(w, k, what));
    }

    /** Corner k as x, y and what both are over. */
    private static BigInteger[] point(WellMap m, int w, int k) {
        BigInteger x = big(m, w, k, 0).multiply(big(m, w, k, 3));
        BigInteger y = big(m, w, k, 2).multiply(big(m, w, k, 1));
        return new BigInteger[] {x, y, big(m, w, k, 1).multiply(big(m, w, k, 3))};
    }

    /** 1 if the point p is on the left of the way from corner i to corner j, 0 if it is on its line. */
    private static int leftOf(WellMap m, int w, int i, int j, BigInteger... p) {
        BigInteger[] a = point(m, w, i);
        BigInteger[] b = point(m, w, j);
        BigInteger wayX = b[0].multiply(a[2]).subtract(a[0].multiply(b[2]));
        BigInteger wayY = b[1].multiply(a[2]).subtract(a[1].multiply(b[2]));
        BigInteger toX = p[0].multiply(a[2]).subtract(a[0].multiply(p[2]));
        BigInteger toY = p[1].multiply(a[2]).subtract(a[1].multiply(p[2]));
        return wayX.multiply(toY).compareTo(wayY.multiply(toX));
    }

    private static void fractions() {
        Random dice = new Random(11);
        for (int round = 0; round < 120; round++) {
            int side = round % 2 == 0 ? 1000 : 12;
            WellMap m = map(side, side);
            for (int i = 0; i < 9; i++) m.sink(dice.nextInt(side + 1), dice.nextInt(side + 1), 1, dice.nextInt(side));
            for (int w = 0; w < m.count(0); w++) {
                for (int k = 0; k < m.corners(w); k++) {
                    dueLowest(m.corner(w, k, 0), m.corner(w, k, 1));
                    dueLowest(m.corner(w, k, 2), m.corner(w, k, 3));
                }
                int v = (w + 1) % m.count(0);
                for (int k = 0; k < m.border(v, w); k++) {
                    dueLowest(m.end(v, w, k, 0), m.end(v, w, k, 1));
                    dueLowest(m.end(v, w, k, 2), m.end(v, w, k, 3));
                }
            }
            for (int k = 0; k < m.rings(); k++) for (int at = 0; at < 6; at += 2) dueLowest(m.round(k, at), m.round(k, at + 1));
            for (int at = 0; at < 6; at += 2) dueLowest(m.largest(at), m.largest(at + 1));
        }
        WellMap m = map(1000, 1000, 0, 0, 500, 1, 1000, 0);
        due("nothing is 0 over 1", m.corner(0, 0, 0) * 10 + m.corner(0, 0, 1), 1);
        due("below 0, above the line", m.round(0, 2), -249999);
        due("above 0, below the line", m.round(0, 3), 2);
        due("whole", map(10, 10, 0, 0, 4, 0, 0, 6).round(0, 1), 1);
    }

    private static void dueLowest(long above, long below) {
        long a = Math.abs(above);
        long b = below;
        while (b > 0) {
            long rest = a % b;
            a = b;
            b = rest;
        }
        due("greatest divisor of " + above + " " + below, below > 0 ? a : -1, 1);
    }

    // ---- II

    private static void whereItTurns() {
        WellMap diagonal = map(10, 10, 0, 0, 10, 10);
        due("cut from corner to corner", ground(diagonal, 0), "0 0, 10 0, 0 10");
        due("the other half", ground(diagonal, 1), "0 10, 10 0, 10 10");
        WellMap middle = map(10, 10, 0, 0, 10, 0, 0, 10, 10, 10);
        due("four meet", ground(middle, 0), "0 0, 5 0, 5 5, 0 5");
        due("three meet", ground(map(30, 10, 5, 0, 5, 10, 25, 5), 2), "115/8 5, 125/8 0, 30 0, 30 10, 125/8 10");
        WellMap tee = map(20, 10, 5, 2, 5, 8, 15, 2, 15, 8);
        tee.become(3, 3, 0);
        due("two wells on the left, one on the right", ground(tee, 0), "0 0, 10 0, 10 5, 0 5");
        tee.become(2, 3, 0);
        due("none on the right", ground(tee, 0), "0 0, 20 0, 20 5, 0 5");
    }

    private static void whichFirst() {
        due("of two with the least x the lower", ground(map(10, 10, 3, 8, 3, 2), 0), "0 5, 10 5, 10 10, 0 10");
        due("one alone has the least x", ground(map(10, 10, 10, 10, 0, 0), 0), "0 10, 10 0, 10 10");
        due("not the lowest", ground(map(10, 10, 6, 0, 0, 6), 0), "0 0, 10 0, 10 10");
        due("on an inner side", ground(map(10, 10, 9, 5, 1, 5), 0), "5 0, 10 0, 10 10, 5 10");
    }

    private static void onTheLeft() {
        Random dice = new Random(3);
        for (int round = 0; round < 60; round++) {
            WellMap m = map(9, 9);
            for (int i = 0; i < 8; i++) m.sink(dice.nextInt(10), dice.nextInt(10), 1, dice.nextInt(12));
            for (int w = 0; w < m.count(0); w++) {
                int n = m.corners(w);
                for (int k = 0; n > 2 && k < n; k++) {
                    due("turns to the left", leftOf(m, w, k, (k + 1) % n, point(m, w, (k + 2) % n)) > 0, true);
                }
            }
        }
    }

    private static void pointsAndPieces() {
        WellMap point = map(10, 10, 0, 0, 10, 10);
        point.become(0, 1, 199);
        due("just more than a point", point.corners(1), 3);
        point.become(0, 1, 200);
        due("a point", ground(point, 1), "10 10");
        point.become(0, 1, 201);
        due("less than a point", ground(point, 1), "");
        WellMap lying = map(10, 10, 5, 0, 5, 10);
        lying.become(0, 1, 99);
        due("just more than a piece", ground(lying, 1), "0 199/20, 10 199/20, 10 10, 0 10");
        lying.become(0, 1, 100);
        due("a piece that lies", ground(lying, 1), "0 10, 10 10");
        lying.become(0, 1, 101);
        due("less than a piece", ground(lying, 1), "");
        WellMap upright = map(10, 10, 0, 5, 10, 5);
        upright.become(0, 1, 100);
        due("a piece that stands", ground(upright, 1), "10 0, 10 10");
        WellMap inside = map(20, 10, 0, 5, 10, 5, 20, 5);
        inside.become(0, 1, 100);
        inside.become(2, 1, 100);
        due("a piece between two grounds", ground(inside, 1), "10 0, 10 10");
        due("what is left of it", ground(inside, 0), "0 0, 10 0, 10 10, 0 10");
        due("what is right of it", ground(inside, 2), "10 0, 20 0, 20 10, 10 10");
        WellMap slant = map(20, 20, 0, 0, 10, 10, 20, 20);
        slant.become(0, 1, 200);
        slant.become(2, 1, 200);
        due("a piece from corner to corner", ground(slant, 1), "0 20, 20 0");
        slant.sink(20, 0, 1, 200);
        due("its half", ground(slant, 1), "0 20, 10 10");
        slant.sink(0, 20, 1, 200);
        due("a point amid all", ground(slant, 1), "10 10");
        slant.become(4, 1, 201);
        due("nothing amid all", ground(slant, 1), "");
    }

    /** A piece that one more border cuts hardly before its end, at its end, and hardly beyond it. */
    private static void pieceCutAtItsEnd() {
        WellMap rim = map(10, 10, 5, 0, 5, 10, 0, 5);
        rim.become(0, 1, 100);
        rim.become(2, 1, 99);
        due("hardly more than its end", ground(rim, 1), "99/10 10, 10 10");
        rim.become(2, 1, 100);
        due("its end", ground(rim, 1), "10 10");
        rim.become(2, 1, 101);
        due("less than its end", ground(rim, 1), "");
        WellMap inner = map(20, 10, 0, 5, 10, 5, 20, 5, 0, 0);
        inner.become(0, 1, 100);
        inner.become(2, 1, 100);
        inner.become(3, 1, 174);
        due("hardly more than its upper end", ground(inner, 1), "10 99/10, 10 10");
        inner.become(3, 1, 175);
        due("its upper end", ground(inner, 1), "10 10");
        inner.become(3, 1, 176);
        due("less than its upper end", ground(inner, 1), "");
    }

    private static void emptyGrounds() {
        WellMap m = map(1000, 1000, 500, 500, 501, 500);
        m.become(0, 1, 1000000);
        due("empty", m.corners(1), 0);
        due("no corner", m.corner(1, 0, 0), -1);
        due("all", m.corners(0), 4);
        due("serves not even itself", m.serves(501, 500, 1), 1);
        due("no border", m.border(0, 1), 0);
        due("none about", m.about(0) + m.about(1), 0);
    }

    private static void whatTheyShare() {
        due("a line", border(map(10, 10, 2, 5, 8, 5), 0, 1), "5 0, 5 10");
        due("a point", border(map(10, 10, 0, 0, 10, 0, 0, 10, 10, 10), 0, 3), "5 5");
        due("nothing", border(map(10, 10, 0, 5, 5, 5, 10, 5), 0, 2), "");
        WellMap piece = map(20, 10, 0, 5, 10, 5, 20, 5);
        piece.become(0, 1, 100);
        piece.become(2, 1, 100);
        due("a ground that is a piece, left", border(piece, 0, 1), "10 0, 10 10");
        due("and right", border(piece, 1, 2), "10 0, 10 10");
        due("and through it", border(piece, 0, 2), "10 0, 10 10");
        WellMap two = map(30, 10, 0, 5, 10, 5, 20, 5, 30, 5);
        two.become(0, 1, 200);
        two.become(3, 1, 200);
        due("two grounds that are one piece", border(two, 1, 2), "15 0, 15 10");
        due("beside", two.beside(1, 2), 1);
        due("about", two.about(1), 1 + 4 + 8);
        WellMap point = map(10, 10, 0, 0, 10, 10);
        point.become(0, 1, 200);
        due("a ground that is a point", border(point, 0, 1), "10 10");
        WellMap corner = map(10, 10, 0, 0, 10, 10, 5, 5);
        corner.become(2, 1, 50);
        due("two that are points", ground(corner, 0) + ", " + ground(corner, 1), "0 0, 10 10");
        due("share nothing", border(corner, 0, 1), "");
    }

    private static void besideEachOther() {
        due("a line", map(10, 10, 2, 5, 8, 5).beside(0, 1), 1);
        due("a point", map(10, 10, 0, 0, 10, 0, 0, 10, 10, 10).beside(0, 3), 0);
        due("nothing", map(10, 10, 0, 5, 5, 5, 10, 5).beside(0, 2), 0);
        WellMap m = map(1000, 1000, 0, 0, 1000, 0, 0, 1000, 1000, 1000);
        m.become(0, 1, 1);
        due("hardly more than a point", m.beside(0, 3), 1);
        due("its ends", border(m, 0, 3), "500 1000001/2000, 1000001/2000 500");
        due("hardly nothing", m.border(1, 2), 0);
        WellMap rim = map(10, 10, 0, 0, 10, 10);
        rim.become(0, 1, 200);
        due("a point of the rim", rim.beside(0, 1), 0);
    }

    private static void endsInOrder() {
        WellMap lying = map(10, 10, 5, 2, 5, 8);
        due("lesser x", border(lying, 0, 1), "0 5, 10 5");
        due("lesser x, the other way", border(lying, 1, 0), "0 5, 10 5");
        WellMap upright = map(10, 10, 2, 5, 8, 5);
        due("same x, lesser y", border(upright, 0, 1), "5 0, 5 10");
        due("same x, lesser y, the other way", border(upright, 1, 0), "5 0, 5 10");
        WellMap down = map(10, 10, 0, 0, 10, 10);
        due("falling", border(down, 0, 1), "0 10, 10 0");
        due("falling, the other way", border(down, 1, 0), "0 10, 10 0");
        WellMap up = map(10, 10, 10, 0, 0, 10);
        due("rising", border(up, 0, 1), "0 0, 10 10");
        due("rising, the other way", border(up, 1, 0), "0 0, 10 10");
    }

    // ---- III

    private static void nothingTakenOff() {
        int[] places = {10, 10, 40, 12, 70, 33, 20, 60, 55, 80, 90, 90, 5, 95};
        WellMap plain = map(100, 100, places);
        WellMap deep = map(100, 100, places);
        for (int w = 0; w < 7; w++) deep.become(w, 1, w % 2 == 0 ? 1000000 : w);
        due("rings", rings(deep), rings(plain));
        for (int k = 0; k < plain.rings(); k++) due("round " + k, round(deep, k), round(plain, k));
        due("largest", largest(deep), largest(plain));
        due("closest", closest(deep), closest(plain));
        for (int w = 0; w < 7; w++) due("nearest " + w, deep.nearest(w), plain.nearest(w));
        due("net", net(deep), net(plain));
        due("hull", hull(deep), hull(plain));
        for (int to = 1; to < 4; to++) due("keep " + to, deep.keep(0, to), plain.keep(0, to));
        due("but grounds are not the same", ground(deep, 1).equals(ground(plain, 1)), false);
    }

    private static void threeOnARound() {
        due("none", map(10, 10).rings(), 0);
        due("one", map(10, 10, 1, 1).rings(), 0);
        due("two", map(10, 10, 1, 1, 9, 1).rings(), 0);
        due("three", rings(map(10, 10, 1, 1, 9, 1, 5, 4)), "0 1 2");
        due("three on a line", rings(map(10, 10, 1, 1, 9, 1, 5, 1)), "");
        due("many on a line", rings(map(10, 10, 0, 0, 1, 1, 2, 2, 3, 3, 4, 4, 5, 5, 6, 6, 7, 7)), "");
        WellMap m = map(10, 10, 1, 1, 9, 1, 5, 4);
        m.become(2, 3, 0);
        due("two and a dry one", m.rings(), 0);
        m.become(2, 4, 2);
        due("two and one of another season", m.rings(), 0);
        m.season(1);
        due("in its season", m.rings(), 1);
    }

    private static void noneWithin() {
        // The round through 0 0, 10 0, 0 10 has its middle at 5 5; 10 10 is on it.
        due("on it", rings(map(20, 20, 0, 0, 10, 0, 0, 10, 10, 10)), "0 1 2 3");
        due("just outside", rings(map(20, 20, 0, 0, 10, 0, 0, 10, 11, 10)), "0 1 2, 1 2 3");
        due("just within", rings(map(20, 20, 0, 0, 10, 0, 0, 10, 9, 10)), "0 1 3, 0 2 3");
        WellMap dry = map(20, 20, 0, 0, 10, 0, 0, 10, 5, 5);
        due("in the middle", rings(dry), "0 1 3, 0 2 3");
        dry.become(3, 3, 0);
        due("a dry one in the middle", rings(dry), "0 1 2");
    }

    private static void onTheWholePlane() {
        // Its middle is 249999 / 2 below the map.
        WellMap m = map(1000, 1000, 0, 0, 500, 1, 1000, 0);
        due("a middle off the map", round(m, 0), "500 -249999/2 by 62500500001/4");
        due("counts", m.rings(), 1);
        WellMap left = map(1000, 1000, 0, 0, 1, 500, 0, 1000);
        due("to the left", round(left, 0), "-249999/2 500 by 62500500001/4");
        WellMap high = map(1000, 1000, 0, 1000, 500, 999, 1000, 1000);
        due("above", round(high, 0), "500 251999/2 by 62500500001/4");
        WellMap right = map(1000, 1000, 1000, 0, 999, 500, 1000, 1000);
        due("to the right", round(right, 0), "251999/2 500 by 62500500001/4");
    }

    private static void allOfThem() {
        WellMap m = map(36, 36, roundOf24());
        due("one ring", m.rings(), 1);
        due("of all 24", m.ring(0), (1 << 24) - 1);
        due("round", round(m, 0), "18 18 by 325");
        m.become(23, 3, 0);
        due("without the last", m.ring(0), (1 << 23) - 1);
        m.become(0, 3, 0);
        due("without the first", m.ring(0), (1 << 23) - 2);
    }

    private static void ringsInOrder() {
        due("by the first, then the second, then the third", rings(map(10, 10, 5, 5, 0, 0, 10, 0, 10, 10, 0, 10)), "0 1 2, 0 1 4, 0 2 3, 0 3 4");
        due("others first", rings(map(10, 10, 0, 0, 10, 0, 10, 10, 0, 10, 5, 5)), "0 1 4, 0 3 4, 1 2 4, 2 3 4");
        // A grid of squares: rings of four.
        due("by the second", rings(map(10, 10, 5, 5, 0, 0, 5, 0, 0, 5, 10, 5, 10, 0)), "0 1 2 3, 0 2 4 5");
    }

    private static void roundsAreFractions() {
        due("fractions", round(map(10, 10, 0, 0, 3, 1, 1, 4), 0), "23/22 41/22 by 1105/242");
        due("whole", round(map(10, 10, 0, 0, 6, 0, 0, 8), 0), "3 4 by 25");
    }

    private static void farthestFromTheNearest() {
        due("one well, in a corner", largest(map(1000, 1000, 0, 0)), "1000 1000 by 2000000");
        due("in the other", largest(map(1000, 1000, 1000, 1000)), "0 0 by 2000000");
        due("the smallest map", largest(map(1, 1, 0, 0)), "1 1 by 2");
        due("full", largest(map(1, 1, 0, 0, 1, 0, 0, 1, 1, 1)), "1/2 1/2 by 1/2");
        due("on a side", largest(map(10, 1, 0, 0, 10, 0)), "5 1 by 26");
        due("in a flat map", largest(map(10, 1, 0, 0, 10, 0, 0, 1, 10, 1)), "5 1/2 by 101/4");
        due("within", largest(map(10, 10, 0, 0, 10, 0, 0, 10, 10, 10)), "5 5 by 50");
        due("farther by less than one than 0 6 is, 25", largest(map(6, 6, 6, 6, 0, 1, 6, 1)), "11/12 6 by 3721/144");
        due("farther by less than one than 0 9/4 is, 225/16", largest(map(6, 6, 0, 6, 5, 6, 3, 0)), "6 7/3 by 130/9");
        WellMap m = map(10, 10, 0, 0, 10, 10);
        m.become(1, 3, 0);
        due("a dry one is none", largest(m), "10 10 by 200");
    }

    private static void firstOfSeveral() {
        due("four corners", largest(map(10, 10, 5, 5)), "0 0 by 50");
        due("two of the same x", largest(map(10, 10, 10, 5)), "0 0 by 125");
        due("two of the same y", largest(map(10, 10, 5, 0)), "0 10 by 125");
        due("the lesser x with the greater y", largest(map(10, 10, 0, 0, 10, 10)), "0 10 by 100");
        due("the lesser x, not the lesser well", largest(map(30, 10, 25, 5, 15, 5, 5, 5)), "0 0 by 50");
    }

    private static void pipesBetweenTwo() {
        due("none", net(map(10, 10)), "");
        due("one", net(map(10, 10, 1, 1)), "");
        due("two", net(map(10, 10, 1, 1, 4, 5)), "0 1 by 25");
        WellMap m = map(10, 10, 0, 0, 1, 0, 2, 0);
        m.become(1, 3, 0);
        due("over a dry one", net(m), "0 2 by 4");
        m.become(1, 4, 8);
        due("over one of another season", net(m), "0 2 by 4");
        m.season(3);
        due("by way of it", net(m), "0 1 by 1, 1 2 by 1");
        due("the longest", net(map(1000, 1000, 0, 0, 1000, 1000)), "0 1 by 2000000");
    }

    private static void fromTheShortestOn() {
        due("by squares", net(map(100, 100, 0, 0, 50, 0, 60, 0, 90, 0)), "1 2 by 100, 2 3 by 900, 0 1 by 2500");
        due("by the lesser", net(map(10, 10, 9, 0, 5, 0, 1, 0, 5, 4)), "0 1 by 16, 1 2 by 16, 1 3 by 16");
        due("by the other", net(map(10, 10, 5, 5, 9, 5, 1, 5, 5, 9)), "0 1 by 16, 0 2 by 16, 0 3 by 16");
    }

    private static void notWhatIsJoined() {
        due("a square has three sides", net(map(10, 10, 0, 0, 10, 0, 0, 10, 10, 10)), "0 1 by 100, 0 2 by 100, 1 3 by 100");
        due("of three the two shorter ones", net(map(10, 10, 0, 0, 5, 0, 0, 5)), "0 1 by 25, 0 2 by 25");
        WellMap m = map(36, 36, roundOf24());
        due("of 24", m.tree(), 23);
        int joined = 1;
        for (int step = 0; step < 24; step++) {
            for (int k = 0; k < 23; k++) {
                int both = 1 << m.pipe(k, 0) | 1 << m.pipe(k, 1);
                if ((joined & both) != 0) joined |= both;
            }
        }
        due("all joined", joined, (1 << 24) - 1);
    }

    private static void whereTheHullTurns() {
        due("not on the way", hull(map(10, 10, 0, 0, 5, 0, 10, 0, 10, 5, 10, 10, 5, 10, 0, 10, 0, 5, 5, 5)), "0 2 4 6");
        due("hardly on the way", hull(map(1000, 1000, 0, 1, 500, 0, 1000, 1, 500, 1000)), "0 1 2 3");
        due("hardly within", hull(map(1000, 1000, 0, 0, 500, 1, 1000, 0, 500, 1000)), "0 2 3");
        due("all 24", map(36, 36, roundOf24()).hull(), 24);
        WellMap m = map(10, 10, 0, 0, 10, 0, 10, 10, 0, 10);
        m.become(0, 3, 0);
        due("without a dry one", hull(m), "3 1 2");
    }

    private static void whichOfTheHullFirst() {
        due("the least x", hull(map(10, 10, 5, 0, 10, 5, 5, 10, 0, 5)), "3 0 1 2");
        due("of several the least y", hull(map(10, 10, 10, 10, 0, 10, 0, 0, 10, 0)), "2 3 0 1");
        due("not the first sunk", hull(map(10, 10, 9, 9, 8, 0, 0, 9)), "2 1 0");
    }

    private static void allOnTheLeft() {
        due("to the left", hull(map(10, 10, 0, 0, 0, 10, 10, 10, 10, 0)), "0 3 2 1");
    }

    private static void hullOfALine() {
        due("lying", hull(map(10, 10, 5, 3, 9, 3, 1, 3, 7, 3)), "2 1");
        due("upright", hull(map(10, 10, 3, 5, 3, 9, 3, 1)), "2 1");
        due("rising", hull(map(10, 10, 5, 5, 10, 10, 0, 0)), "2 1");
        due("falling", hull(map(10, 10, 5, 5, 10, 0, 0, 10)), "2 1");
        due("two", hull(map(10, 10, 5, 5, 4, 9)), "1 0");
    }

    private static void cornersOfTheMap() {
        // One well: what bars a way is the nearest side of each of the two parts of the rim.
        WellMap m = map(100, 60, 10, 20);
        due("0 1", m.keep(0, 1), 4 * 20 * 20);
        due("0 3", m.keep(0, 3), 4 * 20 * 20);
        due("1 2", m.keep(1, 2), 4 * 90 * 90);
        due("2 3", m.keep(2, 3), 4 * 40 * 40);
        due("0 2", m.keep(0, 2), 4 * 20 * 20);
        due("1 3", m.keep(1, 3), 4 * 40 * 40);
        for (int from = 0; from < 4; from++) {
            for (int to = 0; to < 4; to++) {
                if (from != to) due("there and back", m.keep(from, to), m.keep(to, from)); else due("the same corner", m.keep(from, to), -1);
            }
        }
        int[][] at = {{0, 0}, {100, 0}, {100, 60}, {0, 60}};
        for (int c = 0; c < 4; c++) {
            WellMap one = map(100, 60, at[c]);
            for (int to = 0; to < 4; to++) if (to != c) due("a well in corner " + c, one.keep(c, to), 0);
        }
    }

    private static void greatestOfLeast() {
        due("between two wells", map(4, 10, 0, 5, 4, 6).keep(0, 3), 17);
        due("between two wells on two sides", map(6, 6, 5, 6, 0, 1).keep(1, 3), 50);
        due("all around the well", map(10, 10, 3, 5).keep(0, 3), 4 * 5 * 5);
        due("the wider gap", map(10, 10, 3, 5).keep(0, 2), 4 * 5 * 5);
        due("well on a side, way to the other side", map(10, 10, 0, 5).keep(0, 3), 4 * 5 * 5);
        due("well on a side, way along another", map(10, 10, 0, 5).keep(1, 2), 4 * 10 * 10);
        due("the largest there is", map(1000, 1000, 0, 500).keep(1, 2), 4000000);
        due("the smallest map", map(1, 1, 0, 0).keep(1, 3), 4);
        due("a dry map but for its corner", map(1, 1, 0, 0).keep(1, 2), 4);
        WellMap m = map(10, 10, 5, 5, 5, 0);
        m.become(0, 3, 0);
        due("a dry one bars nothing", m.keep(0, 1), 4 * 5 * 5);
        int[] row = new int[48];
        for (int i = 0; i < 24; i++) {
            row[2 * i] = i;
            row[2 * i + 1] = 3;
        }
        due("through a row of 24", map(23, 6, row).keep(0, 3), 1);
        due("not through it", map(23, 6, row).keep(3, 2), 4 * 3 * 3);
        WellMap gap = map(23, 6, row);
        gap.fill(11);
        due("through a gap of two", gap.keep(0, 3), 4);
    }

    private static void aWholeNumber() {
        due("an odd gap", map(3, 10, 0, 5, 3, 5).keep(0, 3), 9);
        due("a slant gap", map(10, 30, 0, 15, 10, 16).keep(0, 3), 101);
    }

    // ---- IV

    private static void sheetsOfEight() {
        for (int s = 0; s < 8; s++) {
            WellMap m = new WellMap();
            due("sheet " + s, m.sheet(s, 8), true);
            for (int k = 0; k < 8; k++) due("line " + k, m.line(s, k, 10 * k, s, k % 3, 0), true);
            due("line 8", m.line(s, 8, 1, 1, 0, 0), false);
            due("line -1", m.line(s, -1, 1, 1, 0, 0), false);
            due("lay", m.lay(s), 8);
            for (int k = 0; k < 8; k++) {
                due("x", m.well(k, 0), 10 * k);
                due("y", m.well(k, 1), s);
                due("kind", m.well(k, 2), k % 3);
            }
            due("nine", m.sheet(s, 9), false);
        }
        for (int s : new int[] {-1, 8, LEAST, MOST}) due("sheet " + s, new WellMap().sheet(s, 1), false);
    }

    private static void eachOfFour() {
        WellMap m = new WellMap();
        m.sheet(3, 2);
        m.line(3, 0, 11, 22, 1, 33);
        m.line(3, 1, 44, 55, 4, 6);
        due("lay", m.lay(3), 2);
        due("x", m.well(0, 0) * 1000 + m.well(1, 0), 11044);
        due("y", m.well(0, 1) * 1000 + m.well(1, 1), 22055);
        due("kind", m.well(0, 2) * 1000 + m.well(1, 2), 1004);
        due("number", m.ask(0, 0) * 1000 + m.ask(1, 3), 33006);
    }

    private static void missingSheets() {
        for (int s = 0; s < 8; s++) {
            WellMap m = new WellMap();
            due("at first", m.lay(s), -1);
            due("no line", m.line(s, 0, 1, 1, 0, 0), false);
            m.sheet(s, 0);
            due("not missing with none", m.lay(s), 0);
            m.sheet(s, -1);
            due("missing again", m.lay(s), -1);
            for (int other = 0; other < 8; other++) if (other != s) due("others", m.lay(other), -1);
        }
    }

    private static void none() {
        due("NONE", WellMap.NONE, -1);
        due("none such", new WellMap().fill(0), WellMap.NONE);
    }

    /** Changes up to the last of 512 calls are told as at first. */
    private static void fiveHundredAndTwelve() {
        WellMap m = new WellMap();
        for (int i = 0; i < 255; i++) {
            due("sink, call " + (2 * i + 1), m.sink(i % 100, i % 7, 1, i), 0);
            due("fill, call " + (2 * i + 2), m.fill(0), 0);
        }
        due("sink, call 511", m.sink(50, 50, 0, 0), 0);
        due("undo, call 512", m.undo(), 7);
    }

    public static void main(String[] args) throws IOException {
        readDocument();
        clause(WHAT_IT_IS, "An object is used for at most 512 calls after it has been made", TermsEdgeTest::fiveHundredAndTwelve);
        clause(0, "I. THE MAP is a rectangle, x from 0 to WIDE, y from 0 to HIGH", TermsEdgeTest::aRectangle);
        clause(0, "1 .. 1000;", TermsEdgeTest::sizes);
        clause(0, "100 and 100 at first", TermsEdgeTest::firstSizes);
        clause(0, "WELLS 0 .. 23 have a place", TermsEdgeTest::twentyFour);
        clause(0, "whole x, y on the map, no two the same", TermsEdgeTest::noTwoAtOnePlace);
        clause(0, "a KIND and a number", TermsEdgeTest::noOtherKinds);
        clause(0, "0 WELL (0)", () -> numbers(0));
        clause(0, "1 DEEP: what is taken off (0 .. 1000000)", () -> numbers(1));
        clause(0, "2 MARKED: a word (0 .. 999999)", () -> numbers(2));
        clause(0, "3 DRY (0)", () -> numbers(3));
        clause(0, "4 SEASONAL: the seasons in which it counts, as bits (1 .. 15)", () -> numbers(4));
        clause(0, "SEASON is 0 .. 3 (0 at first)", TermsEdgeTest::seasons);
        clause(0, "All COUNT but DRY ones, and SEASONAL ones in other SEASONS", TermsEdgeTest::whoCounts);
        clause(0, "The COST of a point for a WELL is the square of its distance, less what is taken off", TermsEdgeTest::cost);
        clause(0, "A WELL serves a point if it COUNTS and no WELL that COUNTS has a lesser COST there", TermsEdgeTest::whoServes);
        clause(0, "Its GROUND is all points of THE MAP that it serves", TermsEdgeTest::allPointsServed);
        clause(0, "FRACTIONS are told in lowest terms, above 0 below the line", TermsEdgeTest::fractions);
        clause(0, "II. CORNERS of a GROUND: of the ring around it, the points at which it turns", TermsEdgeTest::whereItTurns);
        clause(0, "the one with the least x (of several the least y) first", TermsEdgeTest::whichFirst);
        clause(0, "then so that the GROUND is on the left", TermsEdgeTest::onTheLeft);
        clause(0, "A GROUND that is a point, or a piece of a line, has one CORNER, or two (its ends)", TermsEdgeTest::pointsAndPieces);
        clause(0, "or a piece of a line, has one CORNER, or two", TermsEdgeTest::pieceCutAtItsEnd);
        clause(0, "an empty one none", TermsEdgeTest::emptyGrounds);
        clause(0, "BORDER of two WELLS: what their GROUNDS share", TermsEdgeTest::whatTheyShare);
        clause(0, "they are BESIDE each other if that is more than a point", TermsEdgeTest::besideEachOther);
        clause(0, "its ENDS are told with the lesser x (of two of the same x with the lesser y) first", TermsEdgeTest::endsInOrder);
        clause(0, "III. From here on nothing is taken off", TermsEdgeTest::nothingTakenOff);
        clause(0, "RINGS: for a round (a circle) on which at least three WELLS that COUNT lie", TermsEdgeTest::threeOnARound);
        clause(0, "and within which none does", TermsEdgeTest::noneWithin);
        clause(0, "(on the whole plane)", TermsEdgeTest::onTheWholePlane);
        clause(0, "all of these WELLS, in order", TermsEdgeTest::allOfThem);
        clause(0, "RINGS are in the order of their first WELLS, then second and so on", TermsEdgeTest::ringsInOrder);
        clause(0, "The round's middle and the square of its radius are FRACTIONS", TermsEdgeTest::roundsAreFractions);
        clause(0, "LARGEST: of all points of THE MAP that whose nearest WELL that COUNTS is farthest: the square of that distance",
                TermsEdgeTest::farthestFromTheNearest);
        clause(0, "of several the point with the least x, then y", TermsEdgeTest::firstOfSeveral);
        clause(0, "NET: pipes between two WELLS that COUNT", TermsEdgeTest::pipesBetweenTwo);
        clause(0, "taken from the shortest on (by squares; of the same square by the lesser WELL, then by the other one)",
                TermsEdgeTest::fromTheShortestOn);
        clause(0, "each that does not join what is joined already", TermsEdgeTest::notWhatIsJoined);
        clause(0, "HULL: those of the WELLS that COUNT at which the ring around them turns", TermsEdgeTest::whereTheHullTurns);
        clause(0, "turns, the one with the least x (of several the least y) first, then", TermsEdgeTest::whichOfTheHullFirst);
        clause(0, "then so that all are on the left", TermsEdgeTest::allOnTheLeft);
        clause(0, "of WELLS on one line its two ends", TermsEdgeTest::hullOfALine);
        clause(0, "KEEP, from a corner of THE MAP to another one (0: 0 0, 1: WIDE 0, 2: WIDE HIGH, 3: 0 HIGH)", TermsEdgeTest::cornersOfTheMap);
        clause(0, "of all ways on THE MAP between them the one whose least distance from WELLS that COUNT is greatest",
                TermsEdgeTest::greatestOfLeast);
        clause(0, "four times the square of that distance (a whole number)", TermsEdgeTest::aWholeNumber);
        clause(0, "IV. SHEETS 0 .. 7: rows of up to 8 WELLS to be", TermsEdgeTest::sheetsOfEight);
        clause(0, "each x, y, KIND, number", TermsEdgeTest::eachOfFour);
        clause(0, "a SHEET may be missing (as all are at first)", TermsEdgeTest::missingSheets);
        clause(0, "The constants: `NONE = -1`: There is none; it is refused.", TermsEdgeTest::none);
        allHeld(0, 0);
        finish();
    }
}
