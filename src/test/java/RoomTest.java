import java.lang.management.ManagementFactory;
import java.util.Random;

/**
 * That calls make no objects, that a new object is small, and that no call throws for any arguments in any state
 * (an exception ends the test).
 */
public final class RoomTest {
    private static final int[] ODD = {Integer.MIN_VALUE, Integer.MIN_VALUE + 1, -1000001, -25, -2, -1, 0, 1, 2, 3, 4, 5, 6,
        7, 8, 9, 15, 16, 23, 24, 25, 31, 32, 100, 101, 999, 1000, 1001, 999999, 1000000, 1000001, 1 << 30,
        Integer.MAX_VALUE - 1, Integer.MAX_VALUE};

    private static int wrong = 0;
    private static long sum = 0;

    private static final com.sun.management.ThreadMXBean THREADS =
            (com.sun.management.ThreadMXBean) ManagementFactory.getThreadMXBean();

    private static long made() {
        return THREADS.getCurrentThreadAllocatedBytes();
    }

    private static int any(Random dice) {
        return dice.nextInt(4) == 0 ? ODD[dice.nextInt(ODD.length)] : dice.nextInt(26) - 1;
    }

    private static void change(WellMap m, Random d) {
        switch (d.nextInt(12)) {
            case 0: m.rectangle(any(d), any(d)); break;
            case 1: m.season(any(d)); break;
            case 2: m.fill(any(d)); break;
            case 3: m.become(any(d), d.nextInt(5), any(d)); break;
            case 4: m.sheet(any(d), any(d)); break;
            case 5: m.line(any(d), any(d), any(d), any(d), any(d), any(d)); break;
            case 6: m.lay(any(d)); break;
            case 7: m.undo(); break;
            default: m.sink(any(d), any(d), d.nextInt(6), d.nextInt(3) * any(d)); break;
        }
    }

    private static void question(WellMap m, Random d) {
        switch (d.nextInt(22)) {
            case 0: sum += m.well(any(d), any(d)); break;
            case 1: sum += m.ask(any(d), any(d)); break;
            case 2: sum += m.count(any(d)); break;
            case 3: sum += m.serves(any(d), any(d), any(d)); break;
            case 4: sum += m.next(any(d), any(d), any(d), any(d)); break;
            case 5: sum += m.corners(any(d)); break;
            case 6: sum += m.corner(any(d), any(d), any(d)); break;
            case 7: sum += m.beside(any(d), any(d)); break;
            case 8: sum += m.border(any(d), any(d)); break;
            case 9: sum += m.end(any(d), any(d), any(d), any(d)); break;
            case 10: sum += m.about(any(d)); break;
            case 11: sum += m.rings(); break;
            case 12: sum += m.ring(any(d)); break;
            case 13: sum += m.round(any(d), any(d)); break;
            case 14: sum += m.largest(any(d)); break;
            case 15: sum += m.closest(any(d)); break;
            case 16: sum += m.nearest(any(d)); break;
            case 17: sum += m.tree(); break;
            case 18: sum += m.pipe(any(d), any(d)); break;
            case 19: sum += m.hull(); break;
            case 20: sum += m.around(any(d)); break;
            default: sum += m.keep(any(d), any(d)); break;
        }
    }

    private static void run(long seed, int calls) {
        Random dice = new Random(seed);
        WellMap m = new WellMap();
        for (int i = 0; i < calls; i++) {
            if (dice.nextInt(3) == 0) change(m, dice); else question(m, dice);
        }
    }

    private static void due(String what, long got, long most) {
        if (got > most) {
            wrong++;
            System.out.println(what + ": " + got + " bytes, at most " + most);
        }
    }

    public static void main(String[] args) {
        for (long seed = 0; seed < 200; seed++) run(seed, 3000);
        long before = made();
        long nothing = made() - before;
        before = made();
        WellMap one = new WellMap();
        long small = made() - before - nothing;
        sum += one.count(0);
        due("a new object", small, 40000);
        Random dice = new Random(1);
        before = made();
        for (int i = 0; i < 100000; i++) {
            if (dice.nextInt(3) == 0) change(one, dice); else question(one, dice);
        }
        due("its calls", made() - before - nothing, 2000);
        System.out.println("a new object takes " + small + " bytes, calls none; the sum of all answers is " + sum);
        if (wrong != 0) System.exit(1);
    }
}
