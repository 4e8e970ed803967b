import java.util.Arrays;

/** The best sets of a planner's blocks, found by looking at every set. */
final class BruteForce {
    private final FlushPlanner planner;
    private final int count;
    private final int[] device;
    private final int[] address;
    private final int[] value;
    private final int[] bestValue = new int[501];
    private final int[] bestSet = new int[501];

    BruteForce(FlushPlanner planner) {
        this.planner = planner;
        count = planner.report(4);
        device = new int[count];
        address = new int[count];
        value = new int[count];
        for (int k = 0; k < count; k++) {
            device[k] = planner.block(k, 0);
            address[k] = planner.block(k, 1);
            value[k] = planner.block(k, 2);
        }
        Arrays.fill(bestValue, -1);
        look(count - 1, 0, 0, 0, -1);
        for (int energy = 1; energy <= 500; energy++) {
            if (bestValue[energy] <= bestValue[energy - 1]) {
                bestValue[energy] = bestValue[energy - 1];
                bestSet[energy] = bestSet[energy - 1];
            }
        }
    }

    int best(int energy) {
        return bestSet[energy];
    }

    /** Goes from the highest block down and leaves a block out first, so that lower sets come first. */
    private void look(int block, int set, int energy, int sum, int latest) {
        if (block < 0) {
            if (energy <= 500 && sum > bestValue[energy]) {
                bestValue[energy] = sum;
                bestSet[energy] = set;
            }
            return;
        }
        look(block - 1, set, energy, sum, latest);
        int d = device[block];
        if (planner.device(d, 3) == 1) {
            return;
        }
        boolean isSame = latest >= 0 && device[latest] == d;
        boolean isRun = isSame && address[latest] == address[block] + 1;
        int more = planner.device(d, 2) + (isSame ? 0 : planner.device(d, 0)) + (isRun ? 0 : planner.device(d, 1));
        look(block - 1, set | 1 << block, energy + more, sum + value[block], block);
    }
}
