/** Promises 7 to 12: reports on the planner, devices, blocks and totals. */
public final class ReportTest {
    private static final String SETUP = "battery 200 150 10 5 20; reserve 10; mode value 20;"
            + "device 20 5 3; device 10 4 2; device 0 0 1;";

    private ReportTest() {
    }

    public static void main(String[] args) {
        report();
        device();
        block();
        find();
        oldest();
        total();
        Checks.finish("ReportTest");
    }

    private static void report() {
        FlushPlanner x = Checks.planner(SETUP);
        Checks.fill(x, 0, 1, 30, 2, 99, 1);
        x.advance(2);
        x.setPower(false);
        x.advance(4);
        int[] want = {199, 150, 6, 0, 2, 3, 1, 20, 20};
        for (int k = 0; k < want.length; k++) {
            Checks.due("report " + k, x.report(k), want[k]);
        }
        x.setMode(2, 0);
        Checks.due("mode off", x.report(6), 2);
        Checks.due("no threshold", x.report(7), 0);
        x.setPower(true);
        Checks.due("power", x.report(3), 1);
        for (int what : new int[] {-1, 9, Integer.MIN_VALUE, Integer.MAX_VALUE}) {
            Checks.dueThrow("report " + what, Checks.ARGUMENT, () -> x.report(what));
        }
    }

    private static void device() {
        FlushPlanner x = Checks.planner(SETUP);
        Checks.fill(x, 0, 1, 30, 0, 2, 5, 0, 4, 7, 2, 99, 1);
        int[] want = {20, 5, 3, 0, 3, 42, 20 + 2 * 5 + 3 * 3};
        for (int k = 0; k < want.length; k++) {
            Checks.due("device 0, " + k, x.device(0, k), want[k]);
        }
        x.setFailed(0, true);
        Checks.due("failed", x.device(0, 3), 1);
        Checks.due("energy of a failed one", x.device(0, 6), 39);
        Checks.due("blocks of none", x.device(1, 4), 0);
        Checks.due("value of none", x.device(1, 5), 0);
        Checks.due("energy of none", x.device(1, 6), 0);
        Checks.due("another", x.device(2, 6), 1);
        for (int device : new int[] {-1, 3, 5, Integer.MIN_VALUE, Integer.MAX_VALUE}) {
            Checks.dueThrow("device " + device, Checks.INDEX, () -> x.device(device, 0));
            Checks.dueThrow("device " + device + ", -1", Checks.INDEX, () -> x.device(device, -1));
        }
        for (int what : new int[] {-1, 7, Integer.MIN_VALUE, Integer.MAX_VALUE}) {
            Checks.dueThrow("device 0, " + what, Checks.ARGUMENT, () -> x.device(0, what));
        }
    }

    private static void block() {
        FlushPlanner x = Checks.planner(SETUP);
        Checks.fill(x, 2, 0, 11);
        x.advance(3);
        Checks.fill(x, 0, 50, 12, 0, 5, 13);
        x.advance(4);
        Checks.fill(x, 2, 0, 14);
        int[][] want = {{0, 5, 13, 4}, {0, 50, 12, 4}, {2, 0, 14, 7}};
        for (int k = 0; k < want.length; k++) {
            for (int what = 0; what < 4; what++) {
                Checks.due("block " + k + ", " + what, x.block(k, what), want[k][what]);
            }
        }
        for (int block : new int[] {-1, 3, 24, Integer.MIN_VALUE, Integer.MAX_VALUE}) {
            Checks.dueThrow("block " + block, Checks.INDEX, () -> x.block(block, 0));
            Checks.dueThrow("block " + block + ", 4", Checks.INDEX, () -> x.block(block, 4));
        }
        for (int what : new int[] {-1, 4, Integer.MIN_VALUE, Integer.MAX_VALUE}) {
            Checks.dueThrow("block 0, " + what, Checks.ARGUMENT, () -> x.block(0, what));
        }
        x.setMode(2, 0);
        Checks.due("written through", x.write(2, 0, 9), false);
        x.setMode(0, 0);
        Checks.fill(x, 2, 0, 15);
        Checks.due("the age of a block that became dirty again", x.block(2, 3), 0);
    }

    private static void find() {
        FlushPlanner x = Checks.planner(SETUP);
        Checks.fill(x, 1, 0, 1, 1, 99, 1, 0, 99, 1);
        Checks.due("find(0, 99)", x.find(0, 99), 0);
        Checks.due("find(1, 0)", x.find(1, 0), 1);
        Checks.due("find(1, 99)", x.find(1, 99), 2);
        Checks.dueThrow("find(0, 0)", Checks.ELEMENT, () -> x.find(0, 0));
        Checks.dueThrow("find(0, 100)", Checks.INDEX, () -> x.find(0, 100));
        Checks.dueThrow("find(0, -1)", Checks.INDEX, () -> x.find(0, -1));
        Checks.dueThrow("find(3, 0)", Checks.INDEX, () -> x.find(3, 0));
        Checks.dueThrow("find(-1, 0)", Checks.INDEX, () -> x.find(-1, 0));
        Checks.dueThrow("find(0, 199)", Checks.INDEX, () -> x.find(0, 199));
    }

    private static void oldest() {
        FlushPlanner x = Checks.planner(SETUP);
        Checks.dueThrow("oldest of none", Checks.ELEMENT, x::oldest);
        Checks.fill(x, 2, 5, 1);
        Checks.due("oldest of one", x.oldest(), 0);
        x.advance(1);
        Checks.fill(x, 1, 5, 1, 2, 7, 1);
        Checks.due("oldest of three", x.oldest(), 1);
        x.advance(1);
        x.clean(2);
        Checks.fill(x, 1, 7, 1, 0, 0, 1);
        Checks.due("oldest behind a young one", x.oldest(), 1);
        x.clean(1);
        Checks.fill(x, 1, 3, 1);
        Checks.due("equal ages: the lowest number", x.oldest(), 0);
    }

    private static void total() {
        FlushPlanner x = Checks.planner(SETUP);
        Checks.fill(x, 0, 1, 30, 0, 1, 40, 0, 2, 10, 1, 1, 50, 2, 5, 60, 2, 6, 61);
        x.clean(2);
        x.clean(2);
        x.setMode(2, 0);
        Checks.due("through", x.write(0, 2, 9), false);
        Checks.due("through", x.write(2, 2, 9), false);
        x.setMode(0, 0);
        Checks.fill(x, 2, 5, 60, 2, 6, 61);
        x.setPower(false);
        x.flushDevice(2);
        x.setFailed(0, true);
        x.flush();
        x.advance(500);
        int[] want = {8, 2, 3, 1, 171, 40, 2};
        for (int k = 0; k < want.length; k++) {
            Checks.due("total " + k, x.total(k), want[k]);
        }
        for (int what : new int[] {-1, 7, Integer.MIN_VALUE, Integer.MAX_VALUE}) {
            Checks.dueThrow("total " + what, Checks.ARGUMENT, () -> x.total(what));
        }
    }
}
