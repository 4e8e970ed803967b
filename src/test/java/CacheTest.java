/** BLOCKS, ENERGY and WRITES of the description, a test for each sentence. */
public final class CacheTest {
    private static final int ALL_24 = (1 << 24) - 1;

    private CacheTest() {
    }

    public static void main(String[] args) {
        addressesAndValues();
        atMost24Blocks();
        numbersOfBlocks();
        bitSets();
        failedAndRepaired();
        runsOfASet();
        energyOfDevices();
        greatestEnergy();
        possibleSets();
        bestSetFits();
        bestSetOfLeastEnergy();
        bestSetOfLeastNumber();
        bestSetOf24Blocks();
        greedyByValues();
        greedyByNumbers();
        greedyFits();
        greedyOf24Blocks();
        writtenThrough();
        notAllowedInModeOff();
        slotsAreFull();
        guardedEnergyAtMost();
        reserveAboveTheCharge();
        guardedWithoutFailed();
        guardedFromTheThreshold();
        ageOfABlock();
        Checks.finish("CacheTest");
    }

    private static FlushPlanner rich(String devices) {
        return Checks.planner("battery 500 500 0 1 1000;" + devices);
    }

    // ---- BLOCKS

    /** "A block has a device, an address from 0 to 99 on it, and, if it is dirty, a value from 1 to 99." */
    private static void addressesAndValues() {
        FlushPlanner x = rich("device 0 0 1; device 0 0 1;");
        Checks.fill(x, 0, 0, 1, 0, 99, 99, 1, 0, 99, 1, 99, 1);
        int[][] want = {{0, 0, 1}, {0, 99, 99}, {1, 0, 99}, {1, 99, 1}};
        for (int k = 0; k < want.length; k++) {
            for (int what = 0; what < 3; what++) {
                Checks.due("block(" + k + ", " + what + ")", x.block(k, what), want[k][what]);
            }
            Checks.due("found", x.find(want[k][0], want[k][1]), k);
        }
        Checks.dueThrow("address -1", Checks.INDEX, () -> x.write(1, -1, 1));
        Checks.dueThrow("address 100", Checks.INDEX, () -> x.write(0, 100, 1));
        Checks.dueThrow("value 0", Checks.ARGUMENT, () -> x.write(0, 0, 0));
        Checks.dueThrow("value 100", Checks.ARGUMENT, () -> x.write(0, 0, 100));
    }

    private static FlushPlanner with24Blocks() {
        FlushPlanner x = rich("device 0 0 1; device 0 0 1; device 0 0 1; device 0 0 1; device 0 0 1;");
        for (int k = 0; k < 24; k++) {
            Checks.fill(x, k % 5, k, 10 + k);
        }
        return x;
    }

    /** "At most 24 blocks are dirty." */
    private static void atMost24Blocks() {
        FlushPlanner x = with24Blocks();
        Checks.due("24", x.report(4), 24);
        for (int d = 0; d < 5; d++) {
            Checks.due("a 25th would not be cached", x.wouldCache(d, 50, 99), false);
            Checks.due("a 25th is written through", x.write(d, 50, 99), false);
        }
        Checks.due("still 24", x.report(4), 24);
        Checks.due("one of the 24", x.write(4, 4, 99), true);
        Checks.due("the last block", x.block(23, 2), 29);
        Checks.dueThrow("block(24)", Checks.INDEX, () -> x.block(24, 0));
        Checks.due("cleaned", x.clean(4), 4);
        Checks.due("20", x.report(4), 20);
        Checks.due("there is room again", x.write(0, 50, 99), true);
    }

    /** "The dirty blocks are numbered from 0 by their devices, those of one device by their addresses." */
    private static void numbersOfBlocks() {
        FlushPlanner x = rich("device 0 0 1; device 0 0 1; device 0 0 1;");
        Checks.fill(x, 1, 50, 1, 2, 0, 2, 0, 99, 3, 1, 49, 4, 1, 51, 5, 0, 0, 6, 2, 99, 7);
        int[][] want = {{0, 0, 6}, {0, 99, 3}, {1, 49, 4}, {1, 50, 1}, {1, 51, 5}, {2, 0, 2}, {2, 99, 7}};
        for (int k = 0; k < want.length; k++) {
            Checks.due("find", x.find(want[k][0], want[k][1]), k);
            Checks.due("value", x.block(k, 2), want[k][2]);
        }
        x.clean(1);
        Checks.due("numbered anew", x.find(2, 0), 2);
        Checks.due("value", x.block(2, 2), 2);
        Checks.dueThrow("no number 4", Checks.INDEX, () -> x.block(4, 0));
        x.setFailed(0, true);
        Checks.due("blocks of failed devices have numbers, too", x.find(2, 99), 3);
    }

    /** "Sets of dirty blocks are bit sets (bit k for block k)." */
    private static void bitSets() {
        FlushPlanner x = with24Blocks();
        for (int k = 0; k < 24; k++) {
            Checks.due("value of bit " + k, x.valueOf(1 << k), x.block(k, 2));
            Checks.due("energy of bit " + k, x.energyOf(1 << k), 1);
        }
        for (int k = 24; k < 32; k++) {
            int bit = 1 << k;
            Checks.dueThrow("energy of bit " + k, Checks.ARGUMENT, () -> x.energyOf(bit));
            Checks.dueThrow("value of bit " + k, Checks.ARGUMENT, () -> x.valueOf(bit));
            Checks.dueThrow("energy of all and bit " + k, Checks.ARGUMENT, () -> x.energyOf(ALL_24 | bit));
        }
        Checks.due("all", x.valueOf(ALL_24), 24 * 10 + 23 * 12);
        Checks.due("none", x.valueOf(0), 0);
        FlushPlanner none = new FlushPlanner();
        Checks.due("none of none", none.energyOf(0), 0);
        Checks.dueThrow("bit 0 of none", Checks.ARGUMENT, () -> none.energyOf(1));
        Checks.dueThrow("bit 31 of none", Checks.ARGUMENT, () -> none.valueOf(1 << 31));
    }

    /** "A device can fail and be repaired; it has not failed at first." */
    private static void failedAndRepaired() {
        FlushPlanner x = rich("device 0 0 1; device 0 0 1; device 0 0 1; device 0 0 1; device 0 0 1;");
        for (int d = 0; d < 5; d++) {
            Checks.due("at first", x.device(d, 3), 0);
            Checks.due("it fails", x.setFailed(d, true), false);
            Checks.due("failed", x.device(d, 3), 1);
        }
        Checks.due("repaired", x.setFailed(2, false), true);
        int[] want = {1, 1, 0, 1, 1};
        for (int d = 0; d < 5; d++) {
            Checks.due("the others stay failed", x.device(d, 3), want[d]);
        }
        Checks.append(x, "battery 500 500 0 1 1000; device 0 0 1;");
        x.load();
        Checks.due("at first after a load", x.setFailed(0, true), false);
    }

    // ---- ENERGY

    /** "A run of a set of blocks is a maximal sequence of blocks of the set that have consecutive addresses on one device." */
    private static void runsOfASet() {
        FlushPlanner x = rich("device 0 50 1; device 0 50 1;");
        Checks.fill(x, 0, 0, 1, 0, 1, 1, 0, 2, 1, 0, 4, 1, 0, 99, 1, 1, 0, 1, 1, 1, 1);
        int[][] want = {{0b0000001, 51}, {0b0000011, 52}, {0b0000111, 53}, {0b0000101, 102}, {0b0001100, 102},
            {0b0001111, 104}, {0b0001010, 102}, {0b0110000, 102}, {0b1110000, 103}, {0b1010000, 102}, {0b1111111, 207}};
        for (int[] row : want) {
            Checks.due("energyOf " + Integer.toBinaryString(row[0]), x.energyOf(row[0]), row[1]);
        }
    }

    /** "The energy of a set is the sum, over all devices that have blocks in it, of the spin-up energy, ..." */
    private static void energyOfDevices() {
        FlushPlanner x = rich("device 100 10 1; device 70 7 2; device 0 0 3;");
        Checks.fill(x, 0, 5, 1, 0, 6, 1, 1, 5, 1, 1, 7, 1, 2, 5, 1);
        int[][] want = {{0, 0}, {1, 111}, {3, 112}, {4, 79}, {12, 88}, {16, 3}, {5, 190}, {17, 114}, {31, 203}};
        for (int[] row : want) {
            Checks.due("energyOf(" + row[0] + ")", x.energyOf(row[0]), row[1]);
        }
        Checks.due("energy of device 0", x.device(0, 6), 112);
        Checks.due("energy of device 1", x.device(1, 6), 88);
        Checks.due("need", x.need(), 203);
    }

    private static void greatestEnergy() {
        String device = "device 200 50 50;";
        FlushPlanner x = rich("mode value 99;" + device + device + device + device + device);
        for (int k = 0; k < 24; k++) {
            Checks.fill(x, k % 5, 2 * k, 98);
        }
        Checks.due("need", x.need(), 5 * 200 + 24 * 100);
        Checks.due("energy of all", x.energyOf(ALL_24), 3400);
        Checks.due("value of all", x.valueOf(ALL_24), 24 * 98);
        Checks.due("best for 299", x.bestSet(299), 0);
        Checks.due("best for 300", x.bestSet(300), 1);
        Checks.due("best for 500", x.bestSet(500), 7);
        Checks.due("greedy for 500", x.greedySet(500), 7);
        Checks.due("never left", x.minutesLeft(), FlushPlanner.NONE);
        Checks.due("never safe", x.minutesToSafety(), FlushPlanner.NONE);
        Checks.due("600 of 392 is more than 700 of 490", x.costliest(), 4);
    }

    /** "A set is possible if none of its blocks is on a failed device."; "The need is the energy of ... not on failed devices." */
    private static void possibleSets() {
        FlushPlanner x = rich("device 3 2 1; device 3 2 1; device 3 2 1;");
        Checks.fill(x, 0, 0, 10, 1, 0, 99, 2, 0, 30);
        for (int failed = 0; failed < 8; failed++) {
            for (int d = 0; d < 3; d++) {
                x.setFailed(d, (failed >> d & 1) == 1);
            }
            int possible = 7 & ~failed;
            Checks.due("best", x.bestSet(500), possible);
            Checks.due("greedy", x.greedySet(500), possible);
            Checks.due("need", x.need(), 6 * Integer.bitCount(possible));
            Checks.due("energy, also if it is not possible", x.energyOf(7), 18);
            Checks.due("value, also if it is not possible", x.valueOf(7), 139);
        }
    }

    /** "The best set for an energy E is the possible set of the greatest value among those whose energy is at most E". */
    private static void bestSetFits() {
        FlushPlanner x = rich("device 7 2 1; device 0 0 1;");
        Checks.fill(x, 0, 3, 50);
        Checks.due("for 0", x.bestSet(0), 0);
        Checks.due("for 9", x.bestSet(9), 0);
        Checks.due("for 10", x.bestSet(10), 1);
        Checks.due("for 500", x.bestSet(500), 1);
        Checks.fill(x, 1, 3, 1);
        Checks.due("for 0", x.bestSet(0), 0);
        Checks.due("for 1", x.bestSet(1), 2);
        Checks.due("for 10", x.bestSet(10), 1);
        Checks.due("for 11", x.bestSet(11), 3);
        FlushPlanner y = rich("mode value 99; device 200 50 50; device 100 50 50; device 0 0 1;");
        Checks.fill(y, 0, 0, 9, 1, 0, 9);
        Checks.due("500 of 500", y.bestSet(500), 3);
        Checks.due("500 of 499", y.bestSet(499), 2);
        Checks.fill(y, 2, 0, 1);
        Checks.due("501 of 500", y.bestSet(500), 3);
        Checks.due("500 of 499", y.bestSet(499), 6);
    }

    /** "of several the one with the least energy". */
    private static void bestSetOfLeastEnergy() {
        FlushPlanner x = rich("device 0 0 9; device 0 0 8; device 0 0 7;");
        Checks.fill(x, 0, 0, 5, 1, 0, 5, 2, 0, 5);
        int[][] want = {{6, 0}, {7, 4}, {8, 4}, {14, 4}, {15, 6}, {16, 6}, {23, 6}, {24, 7}};
        for (int[] row : want) {
            Checks.due("best for " + row[0], x.bestSet(row[0]), row[1]);
        }
        FlushPlanner y = rich("device 0 5 1;");
        Checks.fill(y, 0, 0, 5, 0, 2, 5, 0, 3, 5);
        Checks.due("a run needs less than two", y.bestSet(12), 6);
        FlushPlanner z = rich("device 6 0 1; device 0 0 4;");
        Checks.fill(z, 0, 0, 5, 0, 5, 5, 1, 0, 5, 1, 5, 5);
        Checks.due("8 and 8: the least number", z.bestSet(8), 3);
    }

    /** "of several of these the one whose bit set is the least number". */
    private static void bestSetOfLeastNumber() {
        FlushPlanner x = rich("device 0 0 1;");
        for (int k = 0; k < 24; k++) {
            Checks.fill(x, 0, 2 * k, 7);
        }
        for (int energy = 0; energy <= 24; energy++) {
            Checks.due("best for " + energy, x.bestSet(energy), (1 << energy) - 1);
        }
        // 10 = 9 + 1 = 4 + 6: the highest block decides first, and the set without it is the lower one.
        FlushPlanner y = rich("device 0 0 1;");
        Checks.fill(y, 0, 0, 9, 0, 2, 4, 0, 4, 6, 0, 6, 1);
        Checks.due("15 and 13 and 10", y.bestSet(2), 5);
        Checks.due("value", y.bestValue(2), 15);
        FlushPlanner z = rich("device 0 0 1;");
        Checks.fill(z, 0, 0, 1, 0, 2, 9, 0, 4, 6, 0, 6, 4);
        z.write(0, 0, 6);
        z.write(0, 2, 4);
        z.write(0, 6, 4);
        Checks.due("6, 4, 6, 4: 2 of them", z.bestSet(2), 5);
        Checks.due("6, 4, 6, 4: 3 of them", z.bestSet(3), 7);
    }

    private static void bestSetOf24Blocks() {
        FlushPlanner x = rich("device 0 0 1; device 0 0 2;");
        for (int k = 0; k < 24; k++) {
            Checks.fill(x, k / 12, k, 99);
        }
        Checks.due("all", x.bestSet(36), ALL_24);
        Checks.due("all but the highest", x.bestSet(35), ALL_24 >> 1);
        Checks.due("value", x.bestValue(36), 2376);
        Checks.due("energy for all", x.energyFor(2376), 36);
        Checks.due("energy for all but one", x.energyFor(2277), 34);
        Checks.due("the first 12", x.bestSet(13), (1 << 12) - 1);
        Checks.due("the first 13", x.bestSet(14), (1 << 13) - 1);
    }

    /** "beginning with the empty set, the dirty blocks on devices that have not failed are considered by descending values". */
    private static void greedyByValues() {
        FlushPlanner x = rich("device 0 0 4; device 0 0 3; device 0 0 2; device 0 0 1;");
        Checks.fill(x, 0, 0, 1, 1, 0, 2, 2, 0, 3, 3, 0, 4);
        int[] want = {0, 8, 8, 12, 12, 12, 14, 14, 14, 14, 15, 15};
        for (int energy = 0; energy < want.length; energy++) {
            Checks.due("greedy for " + energy, x.greedySet(energy), want[energy]);
        }
        x.setFailed(3, true);
        Checks.due("without the failed one", x.greedySet(3), 4);
        Checks.due("then the next", x.greedySet(5), 6);
        FlushPlanner y = rich("device 0 0 1;");
        Checks.fill(y, 0, 0, 1, 0, 2, 1, 0, 4, 1);
        Checks.due("values of 1", y.greedySet(500), 7);
        FlushPlanner z = rich("device 0 0 1;");
        Checks.fill(z, 0, 0, 1);
        Checks.due("the only one", z.greedySet(1), 1);
        Checks.fill(z, 0, 2, 2);
        Checks.due("block 0 as the last one", z.greedySet(2), 3);
        Checks.due("nothing to consider", new FlushPlanner().greedySet(500), 0);
    }

    /** "with equal values by ascending numbers". */
    private static void greedyByNumbers() {
        FlushPlanner x = rich("device 0 0 1;");
        Checks.fill(x, 0, 5, 7, 0, 3, 7, 0, 9, 8, 0, 1, 7, 0, 7, 8);
        int[] want = {0, 8, 24, 25, 27, 31};
        for (int energy = 0; energy < want.length; energy++) {
            Checks.due("greedy for " + energy, x.greedySet(energy), want[energy]);
        }
    }

    /** "each one is added if the energy of the set with it is at most E". */
    private static void greedyFits() {
        FlushPlanner x = rich("device 10 5 1; device 0 0 2;");
        Checks.fill(x, 0, 10, 90, 0, 20, 80, 0, 11, 70, 1, 0, 60);
        int[][] want = {{1, 0}, {2, 8}, {15, 8}, {16, 1}, {17, 3}, {18, 3}, {19, 11}, {21, 11}, {22, 5}, {23, 7}, {25, 15}};
        for (int[] row : want) {
            Checks.due("greedy for " + row[0], x.greedySet(row[0]), row[1]);
        }
        // A block that joins two runs needs less than nothing, but one passed over does not come back.
        FlushPlanner y = rich("device 0 50 1;");
        Checks.fill(y, 0, 10, 90, 0, 12, 80, 0, 11, 70);
        Checks.due("joined", y.greedySet(102), 7);
        Checks.due("not joined", y.greedySet(101), 3);
        Checks.due("the best set for it", y.bestSet(53), 7);
    }

    private static void greedyOf24Blocks() {
        FlushPlanner x = rich("device 0 0 1;");
        for (int k = 0; k < 24; k++) {
            Checks.fill(x, 0, k, 24 - k);
        }
        Checks.due("all 24", x.greedySet(24), ALL_24);
        Checks.due("23 of 24", x.greedySet(23), ALL_24 >> 1);
        Checks.due("quality", x.quality(500), 1.0);
    }

    // ---- WRITES

    private static void write(FlushPlanner x, int device, int address, int value, boolean want) {
        String call = "(" + device + ", " + address + ", " + value + ")";
        Checks.due("wouldCache" + call, x.wouldCache(device, address, value), want);
        Checks.due("write" + call, x.write(device, address, value), want);
        Checks.dueThrow("find behind write" + call, want ? Checks.NOTHING : Checks.ELEMENT, () -> x.find(device, address));
    }

    /** "otherwise it is written through: the block is not dirty then, also if it was before." */
    private static void writtenThrough() {
        FlushPlanner x = Checks.planner("battery 100 10 0 1 100; mode value 50; device 0 0 10;");
        write(x, 0, 5, 50, true);
        write(x, 0, 6, 50, false);
        Checks.due("it was not dirty", x.report(4), 1);
        write(x, 0, 7, 1, true);
        write(x, 0, 7, 50, false);
        Checks.due("it was dirty", x.report(4), 1);
        Checks.due("the other one stays", x.block(0, 1), 5);
        Checks.due("cached", x.total(0), 2);
        Checks.due("written through", x.total(1), 2);
        Checks.due("neither flushed, lost nor cleaned", x.total(2) + x.total(3) + x.total(6), 0);
    }

    /** "It is allowed if the mode is not off". */
    private static void notAllowedInModeOff() {
        FlushPlanner x = Checks.planner("battery 100 100 0 1 100; mode off; device 0 0 1;");
        write(x, 0, 5, 50, false);
        x.setMode(0, 0);
        write(x, 0, 5, 50, true);
        x.setMode(1, 99);
        write(x, 0, 5, 51, true);
        x.setMode(2, 0);
        write(x, 0, 5, 51, false);
    }

    /** "if the block is dirty already or fewer blocks are dirty than there are slots". */
    private static void slotsAreFull() {
        FlushPlanner x = Checks.planner("battery 100 100 0 1 100; slots 3; device 0 0 1; device 0 0 1;");
        write(x, 0, 1, 1, true);
        write(x, 0, 2, 1, true);
        write(x, 1, 1, 1, true);
        write(x, 1, 2, 99, false);
        write(x, 0, 0, 99, false);
        write(x, 0, 1, 99, true);
        write(x, 0, 2, 98, true);
        write(x, 1, 1, 97, true);
        x.setFailed(1, true);
        write(x, 0, 3, 1, false);
        x.setFailed(1, false);
        x.clean(1);
        write(x, 0, 3, 1, true);
        write(x, 0, 4, 1, false);
        x.setPower(false);
        x.flush();
        x.setPower(true);
        write(x, 0, 4, 1, true);
        FlushPlanner y = Checks.planner("battery 100 100 0 1 100; slots 1; device 0 0 1;");
        write(y, 0, 1, 1, true);
        write(y, 0, 2, 1, false);
        write(y, 0, 1, 2, true);
    }

    /** "if the guarded energy is at most the charge minus the reserve". */
    private static void guardedEnergyAtMost() {
        for (int charge = 36; charge <= 44; charge++) {
            FlushPlanner x = Checks.planner("battery 100 " + charge + " 0 1 100; reserve 20; device 10 5 1; device 2 1 1;");
            write(x, 0, 10, 1, charge >= 36);
            write(x, 0, 11, 1, charge >= 37);
            write(x, 0, 13, 1, charge >= 43);
            write(x, 0, 12, 1, charge >= 38);
        }
        FlushPlanner y = Checks.planner("battery 100 21 0 1 100; device 10 5 1; device 2 1 1;");
        write(y, 0, 10, 1, true);
        write(y, 1, 10, 1, true);
        write(y, 1, 11, 1, true);
        write(y, 1, 12, 1, false);
        write(y, 1, 11, 99, true);
    }

    private static void reserveAboveTheCharge() {
        FlushPlanner x = Checks.planner("battery 100 50 1 1 100; reserve 51; mode value 99; device 0 0 1;");
        write(x, 0, 1, 1, false);
        x.advance(1);
        write(x, 0, 1, 1, true);
        write(x, 0, 2, 99, false);
        x.advance(1);
        write(x, 0, 2, 99, true);
        FlushPlanner y = Checks.planner("battery 100 0 1 1 100; mode value 99; device 0 0 1;");
        write(y, 0, 1, 98, true);
        write(y, 0, 1, 99, false);
        FlushPlanner z = Checks.planner("battery 100 100 1 1 100; reserve 200; mode value 99; device 0 0 1;");
        write(z, 0, 1, 1, false);
    }

    /** "those dirty blocks, the written one included, that are not on failed devices". */
    private static void guardedWithoutFailed() {
        FlushPlanner x = Checks.planner("battery 100 12 0 1 100; device 5 0 1; device 10 0 1; device 0 0 1;");
        write(x, 1, 1, 1, true);
        write(x, 1, 2, 1, true);
        write(x, 0, 1, 1, false);
        write(x, 2, 1, 1, false);
        x.setFailed(1, true);
        write(x, 0, 1, 1, true);
        write(x, 2, 1, 1, true);
        x.setFailed(1, false);
        write(x, 2, 2, 1, false);
        write(x, 2, 1, 1, false);
        x.setFailed(0, true);
        write(x, 2, 1, 1, false);
        write(x, 1, 2, 5, true);
    }

    /** "and, in the mode value, have at least the value of the threshold." */
    private static void guardedFromTheThreshold() {
        FlushPlanner x = Checks.planner("battery 100 3 0 1 100; mode value 40; device 0 0 1;");
        write(x, 0, 10, 40, true);
        write(x, 0, 20, 41, true);
        write(x, 0, 30, 99, true);
        write(x, 0, 40, 40, false);
        write(x, 0, 40, 39, true);
        write(x, 0, 50, 1, true);
        write(x, 0, 10, 39, true);
        write(x, 0, 40, 40, true);
        write(x, 0, 50, 40, false);
        x.setMode(1, 41);
        write(x, 0, 50, 41, true);
        x.setMode(1, 1);
        write(x, 0, 60, 1, false);
        x.setMode(0, 0);
        write(x, 0, 60, 1, false);
        x.setMode(1, 99);
        write(x, 0, 60, 98, true);
        // A low value is refused, too, if the others are too dear.
        x.setMode(1, 39);
        Checks.due("need of the six", x.need(), 6);
        write(x, 0, 70, 1, false);
    }

    /** "The age of a dirty block is the number of minutes since it became dirty." */
    private static void ageOfABlock() {
        FlushPlanner x = Checks.planner("battery 500 500 0 1 1000; device 0 0 1; device 0 0 1;");
        x.advance(7);
        Checks.fill(x, 0, 5, 1);
        Checks.due("0 minutes", x.block(0, 3), 0);
        x.advance(1);
        Checks.due("1 minute", x.block(0, 3), 1);
        x.setPower(false);
        x.advance(2);
        Checks.due("also with the power off", x.block(0, 3), 3);
        x.setPower(true);
        Checks.fill(x, 0, 5, 99, 0, 4, 1);
        Checks.due("dirty since then, whatever its value", x.block(1, 3), 3);
        Checks.due("another", x.block(0, 3), 0);
        x.setFailed(0, true);
        x.advance(1000);
        Checks.due("on a failed device", x.block(1, 3), 1003);
        x.setFailed(0, false);
        x.clean(0);
        Checks.fill(x, 0, 5, 1);
        Checks.due("dirty anew", x.block(0, 3), 0);
    }
}
