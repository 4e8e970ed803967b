import java.lang.management.ManagementFactory;

/** LANGUAGE.md, rule 12: what a run makes stays small. A planner makes its rows once, and its calls make nothing. */
public final class RoomTest {
    private static final int CALLS_OF_ROUND = 32;
    /** With the calls that fill the planner, these stay below the 512 that a planner is good for. */
    private static final int ROUNDS = 15;
    private static final long BYTES_OF_PLANNER = 32_000;
    /** What the measuring itself may take; one new row for each search would be 240,000. */
    private static final long BYTES_OF_CALLS = 100_000;

    private RoomTest() {
    }

    public static void main(String[] args) {
        if (!(ManagementFactory.getThreadMXBean() instanceof com.sun.management.ThreadMXBean threads)
                || !threads.isThreadAllocatedMemorySupported()) {
            System.out.println("RoomTest: this Java tells no allocations");
            return;
        }
        // The first planner and its calls load the classes.
        useAll(fullPlanner(), 2);
        long start = threads.getThreadAllocatedBytes(Thread.currentThread().getId());
        FlushPlanner fresh = new FlushPlanner();
        long made = threads.getThreadAllocatedBytes(Thread.currentThread().getId());
        Checks.due("a planner is small", made - start < BYTES_OF_PLANNER, true);
        Checks.due("a planner is there", fresh.report(5), 0);

        FlushPlanner planner = fullPlanner();
        long before = threads.getThreadAllocatedBytes(Thread.currentThread().getId());
        useAll(planner, ROUNDS);
        long after = threads.getThreadAllocatedBytes(Thread.currentThread().getId());
        Checks.due(ROUNDS * CALLS_OF_ROUND + " calls make nothing, not " + (after - before) + " bytes", after - before < BYTES_OF_CALLS, true);
        Checks.finish("RoomTest");
    }

    private static FlushPlanner fullPlanner() {
        FlushPlanner planner = Checks.planner("battery 500 500 50 1 1000; device 9 7 5; device 8 6 4; device 7 5 3;");
        for (int k = 0; k < 24; k++) {
            planner.write(k % 3, k * 2, 1 + k * 4);
        }
        return planner;
    }

    private static void useAll(FlushPlanner x, int rounds) {
        int sum = 0;
        for (int k = 0; k < rounds; k++) {
            sum += x.report(1) + x.device(0, 6) + x.block(3, 2) + x.find(0, 0) + x.oldest() + x.total(0);
            sum += x.write(1, 2, 5) && x.wouldCache(0, 0, 9) ? 1 : 0;
            sum += x.need() + x.energyOf(5) + x.valueOf(7) + x.bestSet(90) + x.bestValue(170) + x.greedySet(120);
            sum += x.quality(100) > 0 ? 1 : 0;
            sum += x.energyFor(300) + x.extra(2) + x.minutesLeft() + x.valueAfter(200) + x.minutesToSafety();
            x.save(0);
            sum += x.setFailed(1, true) ? 1 : 0;
            sum += x.gainOfRepair(1) + x.costliest() + x.setMode(1, 50) + x.clean(0) + x.advance(3);
            sum += x.setPower(false) ? 1 : 0;
            sum += x.advance(300) + x.flush() + x.flushDevice(0);
            x.restore(0);
        }
        Checks.due("the calls answer", sum != 0, true);
    }
}
