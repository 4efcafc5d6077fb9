import java.util.Arrays;
import java.util.Comparator;
import java.util.PriorityQueue;
import java.util.Random;

/**
 * keep() against ways that are searched on a fine grid. A way on the grid is a way on the map, so that keep() is
 * never less than its least distance at grid points less what may lie between two of them; and as the grid is fine,
 * it is hardly more.
 */
public final class WayTest {
    private static final int FINE = 16;

    private static int wrong = 0;
    private static int asked = 0;

    /** The greatest least distance of a grid way. */
    private static double onGrid(int wide, int high, int[] x, int[] y, int from, int to) {
        int columns = wide * FINE + 1;
        int rows = high * FINE + 1;
        double[] away = new double[columns * rows];
        for (int i = 0; i < away.length; i++) {
            double px = (double) (i % columns) / FINE;
            double py = (double) (i / columns) / FINE;
            away[i] = Double.MAX_VALUE;
            for (int w = 0; w < x.length; w++) away[i] = Math.min(away[i], Math.hypot(px - x[w], py - y[w]));
        }
        double[] best = new double[away.length];
        Arrays.fill(best, -1);
        PriorityQueue<Integer> open = new PriorityQueue<>(Comparator.comparingDouble((Integer i) -> -best[i]));
        int start = cornerOf(from, columns, rows);
        best[start] = away[start];
        open.add(start);
        while (!open.isEmpty()) {
            int at = open.poll();
            if (at == cornerOf(to, columns, rows)) return best[at];
            for (int step = 0; step < 9; step++) {
                int c = at % columns + step % 3 - 1;
                int r = at / columns + step / 3 - 1;
                if (c < 0 || r < 0 || c >= columns || r >= rows) continue;
                int to2 = r * columns + c;
                double reach = Math.min(best[at], away[to2]);
                if (reach > best[to2]) {
                    open.remove(to2);
                    best[to2] = reach;
                    open.add(to2);
                }
            }
        }
        return -1;
    }

    private static int cornerOf(int corner, int columns, int rows) {
        int c = corner == 1 || corner == 2 ? columns - 1 : 0;
        int r = corner >= 2 ? rows - 1 : 0;
        return r * columns + c;
    }

    private static void compare(Random dice) {
        int wide = 1 + dice.nextInt(6);
        int high = 1 + dice.nextInt(6);
        WellMap map = new WellMap();
        map.rectangle(wide, high);
        int wells = 1 + dice.nextInt(5);
        for (int i = 0; i < wells; i++) map.sink(dice.nextInt(wide + 1), dice.nextInt(high + 1), 0, 0);
        int[] x = new int[map.count(0)];
        int[] y = new int[map.count(0)];
        for (int w = 0; w < x.length; w++) {
            x[w] = map.well(w, 0);
            y[w] = map.well(w, 1);
        }
        for (int from = 0; from < 4; from++) {
            for (int to = 0; to < 4; to++) {
                if (from == to) continue;
                asked++;
                double kept = Math.sqrt(map.keep(from, to)) / 2;
                double found = onGrid(wide, high, x, y, from, to);
                // Between two grid points, and from the best way to the grid, it is less than one step.
                if (Math.abs(kept - found) > 1.0 / FINE) {
                    wrong++;
                    System.out.println(wide + " by " + high + ", wells at " + Arrays.toString(x) + " " + Arrays.toString(y)
                            + ": keep(" + from + ", " + to + ") tells " + kept + ", on the grid " + found);
                }
            }
        }
    }

    public static void main(String[] args) {
        int runs = args.length > 0 ? Integer.parseInt(args[0]) : 40;
        Random dice = new Random(17);
        for (int run = 0; run < runs; run++) compare(dice);
        System.out.println(asked + " ways, " + (wrong == 0 ? "all as due" : wrong + " not as due"));
        if (wrong != 0) System.exit(1);
    }
}
