/** Promises 22 to 30: need, energies, values, best and greedy sets. */
public final class PlanTest {
    private static final int[] WILD = {Integer.MIN_VALUE, -1, 501, Integer.MAX_VALUE};

    private PlanTest() {
    }

    public static void main(String[] args) {
        need();
        energyAndValue();
        bestSet();
        ties();
        bestOfJoinedRun();
        greedySet();
        quality();
        energyFor();
        extra();
        manyBlocks(1, "device 9 3 4;", 100, 1);
        manyBlocks(2, "device 0 0 1;device 20 7 2;device 40 1 3;device 3 50 1;device 200 0 2;", 9, 5);
        manyBlocks(3, "device 5 5 5;device 5 5 5;", 20, 2);
        Checks.finish("PlanTest");
    }

    private static FlushPlanner example() {
        FlushPlanner x = Checks.planner("battery 100 60 5 2 50; mode value 20; device 20 5 3; device 10 4 2;");
        Checks.fill(x, 0, 5, 30, 0, 6, 10, 1, 0, 40, 1, 2, 25);
        return x;
    }

    private static void need() {
        Checks.due("need of nothing", new FlushPlanner().need(), 0);
        FlushPlanner x = example();
        Checks.due("need", x.need(), 53);
        x.setFailed(0, true);
        Checks.due("need without a device", x.need(), 22);
        x.setFailed(1, true);
        Checks.due("need without devices", x.need(), 0);
    }

    private static void energyAndValue() {
        FlushPlanner x = example();
        int[][] want = {{0, 0, 0}, {1, 28, 30}, {3, 31, 40}, {4, 16, 40}, {12, 22, 65}, {9, 44, 55}, {15, 53, 105}};
        for (int[] row : want) {
            Checks.due("energyOf(" + row[0] + ")", x.energyOf(row[0]), row[1]);
            Checks.due("valueOf(" + row[0] + ")", x.valueOf(row[0]), row[2]);
        }
        x.setFailed(0, true);
        Checks.due("energyOf of a set that is not possible", x.energyOf(3), 31);
        Checks.due("valueOf of a set that is not possible", x.valueOf(3), 40);
        for (int wild : new int[] {16, 31, -1, 1 << 24, Integer.MIN_VALUE, Integer.MAX_VALUE}) {
            Checks.dueThrow("energyOf(" + wild + ")", Checks.ARGUMENT, () -> x.energyOf(wild));
            Checks.dueThrow("valueOf(" + wild + ")", Checks.ARGUMENT, () -> x.valueOf(wild));
        }
        FlushPlanner y = Checks.planner("battery 500 500 0 1 1; device 0 0 1;");
        for (int k = 0; k < 24; k++) {
            Checks.fill(y, 0, 2 * k, 99);
        }
        Checks.due("energyOf all 24", y.energyOf((1 << 24) - 1), 24);
        Checks.due("valueOf all 24", y.valueOf((1 << 24) - 1), 2376);
        Checks.dueThrow("energyOf a 25th", Checks.ARGUMENT, () -> y.energyOf(1 << 24));
        Checks.dueThrow("valueOf bit 31", Checks.ARGUMENT, () -> y.valueOf(1 << 31));
        Checks.due("energyFor 2376", y.energyFor(2376), 24);
    }

    private static void bestSet() {
        FlushPlanner x = example();
        int[][] want = {{0, 0, 0}, {15, 0, 0}, {16, 4, 40}, {21, 4, 40}, {22, 12, 65}, {30, 12, 65}, {43, 12, 65},
            {44, 5, 70}, {45, 5, 70}, {46, 5, 70}, {47, 7, 80}, {50, 13, 95}, {53, 15, 105}, {500, 15, 105}};
        for (int[] row : want) {
            Checks.due("bestSet(" + row[0] + ")", x.bestSet(row[0]), row[1]);
            Checks.due("bestValue(" + row[0] + ")", x.bestValue(row[0]), row[2]);
        }
        x.setFailed(1, true);
        Checks.due("bestSet without a device", x.bestSet(500), 3);
        Checks.due("bestValue without a device", x.bestValue(30), 30);
        x.setFailed(0, true);
        Checks.due("bestSet without devices", x.bestSet(500), 0);
        for (int wild : WILD) {
            Checks.dueThrow("bestSet(" + wild + ")", Checks.ARGUMENT, () -> x.bestSet(wild));
            Checks.dueThrow("bestValue(" + wild + ")", Checks.ARGUMENT, () -> x.bestValue(wild));
        }
    }

    private static void ties() {
        FlushPlanner x = Checks.planner("battery 100 100 0 1 1; device 0 0 5; device 0 0 4; device 0 0 4;");
        Checks.fill(x, 0, 1, 10, 1, 1, 10, 2, 1, 10);
        Checks.due("the least energy, then the least number", x.bestSet(5), 2);
        Checks.due("two of three", x.bestSet(8), 6);
        Checks.due("two of three with energy to spare", x.bestSet(9), 6);
        FlushPlanner y = Checks.planner("battery 100 100 0 1 1; device 0 0 5;");
        Checks.fill(y, 0, 1, 10, 0, 3, 10, 0, 5, 10, 0, 7, 20);
        Checks.due("one", y.bestSet(5), 8);
        Checks.due("two", y.bestSet(10), 9);
        Checks.due("three", y.bestSet(15), 11);
        // 1 and 2 have together the value of 3 and also its energy: the lower number wins.
        FlushPlanner z = Checks.planner("battery 100 100 0 1 1; device 0 0 5; device 0 0 10;");
        Checks.fill(z, 0, 1, 10, 0, 3, 10, 1, 5, 20);
        Checks.due("equal energy", z.bestSet(10), 3);
    }

    private static void bestOfJoinedRun() {
        FlushPlanner x = Checks.planner("battery 500 500 0 1 1; device 2 50 3; device 1 1 1;");
        Checks.fill(x, 0, 10, 40, 0, 11, 1, 0, 12, 40, 1, 0, 5);
        Checks.due("energy of the two ends", x.energyOf(5), 108);
        Checks.due("energy with the middle", x.energyOf(7), 61);
        Checks.due("the middle pays", x.bestSet(61), 7);
        Checks.due("too little for it", x.bestSet(60), 9);
        Checks.due("too little for that", x.bestSet(57), 1);
    }

    private static void greedySet() {
        FlushPlanner x = example();
        int[][] want = {{0, 0}, {15, 0}, {16, 4}, {28, 12}, {30, 12}, {44, 5}, {45, 5}, {47, 7}, {49, 7}, {50, 13}, {53, 15}};
        for (int[] row : want) {
            Checks.due("greedySet(" + row[0] + ")", x.greedySet(row[0]), row[1]);
        }
        x.setFailed(1, true);
        Checks.due("without a device", x.greedySet(500), 3);
        for (int wild : WILD) {
            Checks.dueThrow("greedySet(" + wild + ")", Checks.ARGUMENT, () -> x.greedySet(wild));
        }
        FlushPlanner y = Checks.planner("battery 100 100 0 1 1; device 0 0 5; device 0 0 4;");
        Checks.fill(y, 0, 1, 10, 0, 3, 11, 1, 5, 10);
        Checks.due("equal values by number", y.greedySet(10), 3);
        Checks.due("what does not fit is passed over", y.greedySet(9), 6);
        FlushPlanner z = Checks.planner("battery 500 500 0 1 1; device 2 50 3;");
        Checks.fill(z, 0, 10, 40, 0, 12, 30, 0, 11, 20);
        Checks.due("a passed one is not considered again", z.greedySet(61), 3);
        Checks.due("a joined run", z.greedySet(108), 7);
    }

    private static void quality() {
        FlushPlanner x = example();
        Checks.due("quality(45)", x.quality(45), 1.0);
        Checks.dueThrow("quality(15)", Checks.ELEMENT, () -> x.quality(15));
        for (int wild : WILD) {
            Checks.dueThrow("quality(" + wild + ")", Checks.ARGUMENT, () -> x.quality(wild));
        }
        FlushPlanner y = Checks.planner("battery 500 500 0 1 1; device 0 0 10; device 0 0 1;");
        Checks.fill(y, 0, 10, 40, 1, 1, 39, 1, 2, 38, 1, 3, 37);
        Checks.due("quality(10)", y.quality(10), 40.0 / 114.0);
        Checks.due("quality(11)", y.quality(11), 79.0 / 114.0);
        Checks.due("quality(1)", y.quality(1), 1.0);
        FlushPlanner none = new FlushPlanner();
        Checks.dueThrow("quality without blocks", Checks.ELEMENT, () -> none.quality(500));
        Checks.dueThrow("quality(501) without blocks", Checks.ARGUMENT, () -> none.quality(501));
    }

    private static void energyFor() {
        FlushPlanner x = example();
        int[][] want = {{0, 0}, {1, 16}, {40, 16}, {41, 22}, {65, 22}, {66, 44}, {70, 44}, {71, 47}, {81, 50}, {96, 53}, {105, 53}};
        for (int[] row : want) {
            Checks.due("energyFor(" + row[0] + ")", x.energyFor(row[0]), row[1]);
        }
        Checks.dueThrow("energyFor(106)", Checks.ELEMENT, () -> x.energyFor(106));
        Checks.dueThrow("energyFor(2376)", Checks.ELEMENT, () -> x.energyFor(2376));
        for (int wild : new int[] {Integer.MIN_VALUE, -1, 2377, Integer.MAX_VALUE}) {
            Checks.dueThrow("energyFor(" + wild + ")", Checks.ARGUMENT, () -> x.energyFor(wild));
        }
        x.setFailed(1, true);
        Checks.due("without a device", x.energyFor(31), 31);
        Checks.dueThrow("too much without a device", Checks.ELEMENT, () -> x.energyFor(41));
        Checks.due("energyFor(0) of nothing", new FlushPlanner().energyFor(0), 0);
        // With the mode value the need may pass 500, and the value of all is out of reach.
        FlushPlanner y = Checks.planner("battery 500 500 0 1 1; mode value 99; device 200 0 50; device 200 0 50; device 0 0 1;");
        Checks.fill(y, 0, 0, 10, 1, 0, 10, 2, 0, 10);
        Checks.dueThrow("501 is too much", Checks.ELEMENT, () -> y.energyFor(30));
        Checks.due("500 is not", y.energyFor(20), 251);
        y.clean(2);
        Checks.due("500 for both", y.energyFor(20), 500);
    }

    private static void extra() {
        FlushPlanner x = Checks.planner("battery 100 100 0 1 1000; mode value 99; device 20 5 3; device 10 4 2;");
        Checks.fill(x, 0, 5, 30, 0, 6, 10, 0, 8, 9, 1, 0, 40, 1, 2, 25);
        x.setPower(false);
        for (int k = 0; k < 5; k++) {
            Checks.due("extra of a chosen block", x.extra(k), 0);
        }
        x.advance(70);
        Checks.due("the best set for 30", x.bestSet(30), 24);
        int[] want = {28, 28, 28, 0, 0};
        for (int k = 0; k < 5; k++) {
            Checks.due("extra " + k, x.extra(k), want[k]);
        }
        x.setFailed(1, true);
        Checks.due("the best set for 30", x.bestSet(30), 1);
        Checks.due("extra in the run", x.extra(1), 3);
        Checks.due("extra behind the run", x.extra(2), 8);
        Checks.dueThrow("extra on a failed device", Checks.STATE, () -> x.extra(3));
        for (int wild : new int[] {Integer.MIN_VALUE, -1, 5, 24, 32, Integer.MAX_VALUE}) {
            Checks.dueThrow("extra(" + wild + ")", Checks.INDEX, () -> x.extra(wild));
        }
    }

    /** Compares the best sets of 22 blocks for every energy with those of all sets. */
    private static void manyBlocks(int seed, String devices, int addresses, int deviceCount) {
        FlushPlanner x = Checks.planner("battery 500 500 0 1 1; mode value 99;" + devices);
        java.util.Random random = new java.util.Random(seed);
        for (int tries = 0; tries < 1000 && x.report(4) < 22; tries++) {
            x.write(random.nextInt(deviceCount), random.nextInt(addresses), 1 + random.nextInt(98) / 7 * 7);
        }
        Checks.due("blocks", x.report(4), 22);
        BruteForce force = new BruteForce(x);
        int value = 0;
        for (int energy = 0; energy <= 500; energy++) {
            Checks.due(seed + ": bestSet(" + energy + ")", x.bestSet(energy), force.best(energy));
            Checks.due(seed + ": bestValue(" + energy + ")", x.bestValue(energy), x.valueOf(force.best(energy)));
            for (; value <= x.bestValue(energy); value++) {
                Checks.due(seed + ": energyFor(" + value + ")", x.energyFor(value), energy);
            }
        }
    }
}
