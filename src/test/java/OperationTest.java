/** Promises 13 to 21: writes, cleaning, failures, modes, power, time and flushes. */
public final class OperationTest {
    private static final int[] WILD = {Integer.MIN_VALUE, -1, 100, 101, Integer.MAX_VALUE};

    private OperationTest() {
    }

    public static void main(String[] args) {
        writeByEnergy();
        writeJoinsRuns();
        writeByThreshold();
        writeBySlots();
        writeBesideFailedDevice();
        writeExceptions();
        clean();
        setFailed();
        setMode();
        setPower();
        charging();
        draining();
        wear();
        losing();
        flush();
        flushDevice();
        Checks.finish("OperationTest");
    }

    /** What wouldCache foretells must come true. */
    private static void write(FlushPlanner x, int device, int address, int value, boolean want) {
        String call = "(" + device + ", " + address + ", " + value + ")";
        int dirty = x.report(4);
        Checks.due("wouldCache" + call, x.wouldCache(device, address, value), want);
        Checks.due("wouldCache" + call + " changes nothing", x.report(4), dirty);
        Checks.due("write" + call, x.write(device, address, value), want);
    }

    private static void writeByEnergy() {
        FlushPlanner x = Checks.planner("battery 100 40 0 1 100; reserve 10; device 10 5 5;");
        write(x, 0, 10, 1, true);
        write(x, 0, 20, 1, true);
        Checks.due("need at the edge", x.need(), 30);
        write(x, 0, 21, 99, false);
        Checks.due("not dirty", x.report(4), 2);
        write(x, 0, 20, 7, true);
        Checks.due("the new value", x.block(1, 2), 7);
        x.setPower(false);
        x.advance(1);
        x.setPower(true);
        write(x, 0, 20, 8, false);
        Checks.due("no longer dirty", x.report(4), 1);
        Checks.due("cached", x.total(0), 3);
        Checks.due("through", x.total(1), 2);
        Checks.due("not cleaned", x.total(6), 0);
        FlushPlanner y = Checks.planner("battery 100 10 0 1 100; reserve 11; mode value 50; device 0 0 1;");
        write(y, 0, 1, 1, false);
    }

    private static void writeJoinsRuns() {
        FlushPlanner x = Checks.planner("battery 500 110 0 1 100; device 4 50 3;");
        write(x, 0, 10, 1, true);
        write(x, 0, 12, 1, true);
        Checks.due("two runs", x.need(), 110);
        write(x, 0, 14, 1, false);
        write(x, 0, 13, 1, false);
        write(x, 0, 11, 1, true);
        Checks.due("one run", x.need(), 63);
        FlushPlanner y = Checks.planner("battery 500 70 0 1 100; device 0 30 3; device 0 30 3;");
        write(y, 0, 99, 1, true);
        write(y, 1, 0, 1, true);
        Checks.due("no run over two devices", y.need(), 66);
        write(y, 1, 1, 1, true);
        write(y, 0, 98, 1, false);
    }

    private static void writeByThreshold() {
        FlushPlanner x = Checks.planner("battery 100 20 0 1 100; mode value 50; device 10 5 5;");
        write(x, 0, 10, 50, true);
        write(x, 0, 20, 50, false);
        write(x, 0, 20, 49, true);
        write(x, 0, 30, 49, true);
        write(x, 0, 20, 50, false);
        Checks.due("through", x.report(4), 2);
        write(x, 0, 10, 49, true);
        write(x, 0, 30, 99, true);
        Checks.due("need of all", x.need(), 30);
        x.setMode(0, 0);
        write(x, 0, 30, 99, false);
        write(x, 0, 10, 99, true);
    }

    private static void writeBySlots() {
        FlushPlanner x = Checks.planner("battery 100 100 0 1 100; slots 2; device 1 1 1; device 1 1 1;");
        write(x, 0, 1, 1, true);
        write(x, 1, 1, 1, true);
        write(x, 0, 2, 1, false);
        write(x, 0, 1, 9, true);
        x.setFailed(1, true);
        write(x, 0, 2, 1, false);
        x.clean(0);
        write(x, 0, 2, 1, true);
        x.setMode(2, 0);
        write(x, 0, 2, 1, false);
        Checks.due("off drops a dirty block", x.report(4), 1);
    }

    private static void writeBesideFailedDevice() {
        FlushPlanner x = Checks.planner("battery 100 40 0 1 100; device 10 5 5; device 10 5 5;");
        write(x, 0, 1, 1, true);
        write(x, 0, 3, 1, true);
        write(x, 1, 1, 1, false);
        x.setFailed(0, true);
        write(x, 1, 1, 1, true);
        write(x, 1, 3, 1, true);
        x.setFailed(0, false);
        write(x, 1, 3, 2, false);
    }

    private static void writeExceptions() {
        FlushPlanner x = Checks.planner("battery 100 100 0 1 100; device 1 1 1; device 1 1 1;");
        x.setFailed(1, true);
        writeThrows(x, 1, 0, 1, Checks.STATE);
        writeThrows(x, 2, 0, 1, Checks.INDEX);
        writeThrows(x, 0, 99, 99, Checks.NOTHING);
        writeThrows(x, 1, 0, 0, Checks.ARGUMENT);
        x.setPower(false);
        for (int wild : WILD) {
            writeThrows(x, wild, 0, 0, Checks.INDEX);
            writeThrows(x, 0, wild, 0, Checks.INDEX);
            writeThrows(x, 0, 0, wild, Checks.ARGUMENT);
        }
        writeThrows(x, 0, 0, 0, Checks.ARGUMENT);
        writeThrows(x, 0, 0, 1, Checks.STATE);
        Checks.due("one write only", x.total(0) + x.total(1), 1);
        writeThrows(new FlushPlanner(), 0, 0, 1, Checks.INDEX);
    }

    private static void writeThrows(FlushPlanner x, int device, int address, int value, String want) {
        String call = "(" + device + ", " + address + ", " + value + ")";
        Checks.dueThrow("wouldCache" + call, want, () -> x.wouldCache(device, address, value));
        Checks.dueThrow("write" + call, want, () -> x.write(device, address, value));
    }

    private static void clean() {
        FlushPlanner x = Checks.planner("battery 100 100 0 1 100; device 1 1 1; device 1 1 1; device 1 1 1;");
        Checks.fill(x, 0, 5, 1, 1, 5, 1, 1, 7, 1, 2, 5, 1);
        Checks.due("clean(1)", x.clean(1), 2);
        Checks.due("the others stay", x.report(4), 2);
        Checks.due("and get new numbers", x.block(1, 0), 2);
        Checks.due("clean(1) again", x.clean(1), 0);
        Checks.due("no charge is needed", x.report(1), 100);
        Checks.due("cleaned", x.total(6), 2);
        Checks.due("not flushed", x.total(2), 0);
        x.setFailed(0, true);
        Checks.dueThrow("clean of a failed device", Checks.STATE, () -> x.clean(0));
        x.setPower(false);
        Checks.dueThrow("clean with the power off", Checks.STATE, () -> x.clean(2));
        Checks.due("nothing cleaned", x.report(4), 2);
        for (int wild : WILD) {
            Checks.dueThrow("clean(" + wild + ")", Checks.INDEX, () -> x.clean(wild));
        }
        Checks.dueThrow("clean(3)", Checks.INDEX, () -> x.clean(3));
    }

    private static void setFailed() {
        FlushPlanner x = Checks.planner("battery 100 100 0 1 100; device 1 1 1;");
        Checks.fill(x, 0, 5, 1);
        Checks.due("not failed", x.setFailed(0, false), false);
        Checks.due("fails", x.setFailed(0, true), false);
        Checks.due("fails again", x.setFailed(0, true), true);
        Checks.due("its block stays", x.report(4), 1);
        Checks.due("no need", x.need(), 0);
        Checks.due("repaired", x.setFailed(0, false), true);
        Checks.due("need", x.need(), 3);
        for (int wild : WILD) {
            Checks.dueThrow("setFailed(" + wild + ")", Checks.INDEX, () -> x.setFailed(wild, true));
        }
        Checks.dueThrow("setFailed(1)", Checks.INDEX, () -> x.setFailed(1, true));
    }

    private static void setMode() {
        FlushPlanner x = Checks.planner("battery 100 100 0 1 100; device 1 1 1;");
        Checks.fill(x, 0, 5, 1);
        int[][] wrong = {{-1, 0}, {3, 0}, {0, 1}, {0, -1}, {2, 1}, {1, 0}, {1, 100}, {1, -1}, {3, 5},
            {Integer.MAX_VALUE, 0}, {Integer.MIN_VALUE, 0}, {1, Integer.MAX_VALUE}, {1, Integer.MIN_VALUE}};
        for (int[] pair : wrong) {
            Checks.dueThrow("setMode(" + pair[0] + ", " + pair[1] + ")", Checks.ARGUMENT,
                    () -> x.setMode(pair[0], pair[1]));
        }
        Checks.due("setMode(1, 99)", x.setMode(1, 99), 0);
        Checks.due("threshold", x.report(7), 99);
        Checks.due("setMode(1, 1)", x.setMode(1, 1), 1);
        Checks.due("setMode(2, 0)", x.setMode(2, 0), 1);
        Checks.due("threshold", x.report(7), 0);
        Checks.due("setMode(0, 0)", x.setMode(0, 0), 2);
        Checks.due("dirty blocks stay", x.report(4), 1);
    }

    private static void setPower() {
        FlushPlanner x = new FlushPlanner();
        Checks.due("on to on", x.setPower(true), true);
        Checks.due("on to off", x.setPower(false), true);
        Checks.due("off", x.report(3), 0);
        Checks.due("off to off", x.setPower(false), false);
        Checks.due("off to on", x.setPower(true), false);
        Checks.due("on", x.report(3), 1);
    }

    private static void charging() {
        FlushPlanner x = Checks.planner("battery 100 80 7 1 100;");
        Checks.due("nothing lost", x.advance(2), 0);
        Checks.due("charge", x.report(1), 94);
        x.advance(1);
        Checks.due("at most the capacity", x.report(1), 100);
        x.advance(1000);
        Checks.due("time", x.report(2), 1003);
        Checks.due("no discharge", x.report(8), 0);
        for (int wild : new int[] {Integer.MIN_VALUE, -1, 0, 1001, Integer.MAX_VALUE}) {
            Checks.dueThrow("advance(" + wild + ")", Checks.ARGUMENT, () -> x.advance(wild));
        }
        Checks.due("the time stays", x.report(2), 1003);
    }

    private static void draining() {
        FlushPlanner x = Checks.planner("battery 100 20 7 6 1000;");
        x.setPower(false);
        x.advance(3);
        Checks.due("charge", x.report(1), 2);
        x.advance(1);
        Checks.due("at most to 0", x.report(1), 0);
        Checks.due("only what there was", x.report(8), 20);
        x.advance(10);
        Checks.due("no more", x.report(8), 20);
    }

    private static void wear() {
        FlushPlanner x = Checks.planner("battery 100 100 50 30 10;");
        x.setPower(false);
        x.advance(1);
        Checks.due("three multiples at once", x.report(0), 97);
        Checks.due("charge", x.report(1), 70);
        x.setPower(true);
        x.advance(1);
        Checks.due("charged to the capacity", x.report(1), 97);
        FlushPlanner y = Checks.planner("battery 10 10 10 1 1;");
        y.setPower(false);
        for (int k = 1; k <= 9; k++) {
            y.advance(1);
            Checks.due("capacity after " + k, y.report(0), 10 - k);
            Checks.due("charge after " + k, y.report(1), 10 - k);
        }
        y.advance(1);
        Checks.due("not below 1", y.report(0), 1);
        Checks.due("discharge", y.report(8), 10);
        // The capacity sinks as fast as the charge here, which so never has to be cut to it.
        FlushPlanner z = Checks.planner("battery 12 10 5 4 1;");
        z.setPower(false);
        z.advance(1);
        Checks.due("capacity", z.report(0), 8);
        Checks.due("charge", z.report(1), 6);
        z.setPower(true);
        z.advance(1);
        z.setPower(false);
        z.advance(1);
        Checks.due("capacity", z.report(0), 4);
        Checks.due("charge", z.report(1), 4);
        Checks.due("discharge", z.report(8), 8);
        FlushPlanner w = Checks.planner("battery 100 100 50 3 7;");
        w.setPower(false);
        w.advance(2);
        Checks.due("6 of 7", w.report(0), 100);
        w.advance(1);
        Checks.due("9 passes 7", w.report(0), 99);
        w.advance(2);
        Checks.due("15 passes 14", w.report(0), 98);
        w.advance(2);
        Checks.due("21 reaches 21", w.report(0), 97);
    }

    private static void losing() {
        FlushPlanner x = Checks.planner("battery 100 10 5 5 100; device 1 1 1; device 1 1 1;");
        Checks.fill(x, 0, 1, 30, 1, 1, 12);
        x.setFailed(1, true);
        x.setPower(false);
        Checks.due("nothing yet", x.advance(1), 0);
        Checks.due("lost", x.advance(5), 42);
        Checks.due("none left", x.report(4), 0);
        Checks.due("count", x.total(3), 2);
        Checks.due("value", x.total(5), 42);
        Checks.due("time", x.report(2), 6);
        Checks.due("no more", x.advance(1), 0);
        FlushPlanner y = Checks.planner("battery 100 3 0 1 100; device 1 1 1;");
        Checks.fill(y, 0, 1, 30);
        y.setPower(false);
        Checks.due("nothing yet", y.advance(2), 0);
        y.setPower(true);
        Checks.due("nothing with the power on", y.advance(1000), 0);
        y.setPower(false);
        Checks.due("lost", y.advance(1), 30);
    }

    private static void flush() {
        FlushPlanner x = Checks.planner("battery 100 60 5 2 50; mode value 20; device 20 5 3; device 10 4 2;");
        Checks.fill(x, 0, 5, 30, 0, 6, 10, 1, 0, 40, 1, 2, 25);
        Checks.dueThrow("flush with the power on", Checks.STATE, x::flush);
        x.setPower(false);
        x.advance(5);
        Checks.due("flush", x.flush(), 95);
        Checks.due("charge", x.report(1), 0);
        Checks.due("discharge", x.report(8), 60);
        Checks.due("capacity", x.report(0), 99);
        Checks.due("left", x.report(4), 1);
        Checks.due("address of what is left", x.block(0, 1), 6);
        Checks.due("flushed", x.total(2), 3);
        Checks.due("value", x.total(4), 95);
        Checks.due("flush without charge", x.flush(), 0);
        x.setPower(true);
        Checks.due("not lost yet", x.advance(1), 0);
        x.setPower(false);
        Checks.due("lost", x.advance(3), 10);
        FlushPlanner y = Checks.planner("battery 100 60 5 2 1; device 0 0 20; device 0 0 20;");
        Checks.fill(y, 0, 5, 1, 1, 5, 99);
        y.setFailed(1, true);
        y.setPower(false);
        Checks.due("a failed device is not flushed", y.flush(), 1);
        Checks.due("charge", y.report(1), 40);
        Checks.due("the wear of a flush", y.report(0), 80);
        Checks.due("left", y.block(0, 0), 1);
    }

    private static void flushDevice() {
        FlushPlanner x = Checks.planner("battery 100 60 5 1 15; device 20 5 3; device 10 4 2;");
        Checks.fill(x, 0, 5, 30, 0, 6, 10, 1, 2, 25);
        Checks.dueThrow("with the power on", Checks.STATE, () -> x.flushDevice(0));
        x.setPower(false);
        Checks.due("flushDevice(1)", x.flushDevice(1), 25);
        Checks.due("charge", x.report(1), 44);
        Checks.due("capacity", x.report(0), 99);
        Checks.due("flushDevice(1) of none", x.flushDevice(1), 0);
        x.setFailed(0, true);
        Checks.dueThrow("of a failed device", Checks.STATE, () -> x.flushDevice(0));
        x.setFailed(0, false);
        x.advance(14);
        Checks.dueThrow("with 30 of 31", Checks.STATE, () -> x.flushDevice(0));
        Checks.due("nothing is flushed", x.report(4), 2);
        x.setPower(true);
        x.advance(1);
        x.setPower(false);
        x.advance(4);
        Checks.due("charge", x.report(1), 31);
        Checks.due("with 31 of 31", x.flushDevice(0), 40);
        Checks.due("no charge", x.report(1), 0);
        Checks.due("flushed", x.total(2), 3);
        Checks.due("value", x.total(4), 65);
        for (int wild : WILD) {
            Checks.dueThrow("flushDevice(" + wild + ")", Checks.INDEX, () -> x.flushDevice(wild));
        }
        x.setPower(true);
        Checks.dueThrow("flushDevice(2)", Checks.INDEX, () -> x.flushDevice(2));
        Checks.dueThrow("none with the power on", Checks.STATE, () -> x.flushDevice(0));
    }
}
