import java.lang.management.ManagementFactory;
import java.util.Random;

/**
 * That a run of calls keeps within its room, and that no call throws for any arguments in any state (an exception
 * ends the test). The room is 7.3 million fields and elements for all calls of a run; it is told here in bytes.
 */
public final class RoomTest {
    private static final int[] ODD = {Integer.MIN_VALUE, Integer.MIN_VALUE + 1, -1000001, -25, -2, -1, 0, 1, 2, 3, 4, 5, 6,
        7, 8, 9, 15, 16, 23, 24, 25, 31, 32, 100, 101, 999, 1000, 1001, 999999, 1000000, 1000001, 1 << 30,
        Integer.MAX_VALUE - 1, Integer.MAX_VALUE};

    private static final long ROOM = 4 * 7300000L;

    private static long sum = 0;

    private static final com.sun.management.ThreadMXBean THREADS =
            (com.sun.management.ThreadMXBean) ManagementFactory.getThreadMXBean();

    private static long made() {
        return THREADS.getCurrentThreadAllocatedBytes();
    }

    private static int any(Random dice) {
        return dice.nextInt(4) == 0 ? ODD[dice.nextInt(ODD.length)] : dice.nextInt(26) - 1;
    }

    private static void change(WellMap m, Random d) {
        switch (d.nextInt(12)) {
            case 0: m.rectangle(any(d), any(d)); break;
            case 1: m.season(any(d)); break;
            case 2: m.fill(any(d)); break;
            case 3: m.become(any(d), d.nextInt(5), any(d)); break;
            case 4: m.sheet(any(d), any(d)); break;
            case 5: m.line(any(d), any(d), any(d), any(d), any(d), any(d)); break;
            case 6: m.lay(any(d)); break;
            case 7: m.undo(); break;
            default: m.sink(any(d), any(d), d.nextInt(6), d.nextInt(3) * any(d)); break;
        }
    }

    private static void question(WellMap m, Random d) {
        switch (d.nextInt(22)) {
            case 0: sum += m.well(any(d), any(d)); break;
            case 1: sum += m.ask(any(d), any(d)); break;
            case 2: sum += m.count(any(d)); break;
            case 3: sum += m.serves(any(d), any(d), any(d)); break;
            case 4: sum += m.next(any(d), any(d), any(d), any(d)); break;
            case 5: sum += m.corners(any(d)); break;
            case 6: sum += m.corner(any(d), any(d), any(d)); break;
            case 7: sum += m.beside(any(d), any(d)); break;
            case 8: sum += m.border(any(d), any(d)); break;
            case 9: sum += m.end(any(d), any(d), any(d), any(d)); break;
            case 10: sum += m.about(any(d)); break;
            case 11: sum += m.rings(); break;
            case 12: sum += m.ring(any(d)); break;
            case 13: sum += m.round(any(d), any(d)); break;
            case 14: sum += m.largest(any(d)); break;
            case 15: sum += m.closest(any(d)); break;
            case 16: sum += m.nearest(any(d)); break;
            case 17: sum += m.tree(); break;
            case 18: sum += m.pipe(any(d), any(d)); break;
            case 19: sum += m.hull(); break;
            case 20: sum += m.around(any(d)); break;
            default: sum += m.keep(any(d), any(d)); break;
        }
    }

    private static void run(long seed, int calls) {
        Random dice = new Random(seed);
        WellMap m = new WellMap();
        for (int i = 0; i < calls; i++) {
            if (dice.nextInt(3) == 0) change(m, dice); else question(m, dice);
        }
    }

    /** Many wells, then every change followed by the questions that take most to answer: 512 calls in all. */
    private static void dearestRun() {
        WellMap m = new WellMap();
        m.rectangle(1000, 1000);
        for (int w = 0; w < 24; w++) m.sink(w * 7919 % 1001, w * 104729 % 1001, 0, 0);
        for (int i = 0; i < 60; i++) {
            int w = i % 24;
            m.become(w, 1, i);
            sum += m.rings() + m.largest(4) + m.tree() + m.hull() + m.keep(0, 2) + m.about(w);
            sum += m.corners((w + 1) % 24);
        }
    }

    public static void main(String[] args) {
        for (long seed = 0; seed < 200; seed++) run(seed, 3000);
        dearestRun();
        long before = made();
        dearestRun();
        long bytes = made() - before;
        System.out.println("512 calls took " + bytes + " bytes of " + ROOM + "; the sum of all answers is " + sum);
        if (bytes > ROOM) System.exit(1);
    }
}
