import java.util.List;

/** The edges that the promises name, promise by promise; what the description names is tested by the tests of its parts. */
public final class BoundaryTest {
    private static final String TWO = "device 20 5 3; device 10 4 2;";

    private BoundaryTest() {
    }

    public static void main(String[] args) {
        newObject();
        append();
        truncate();
        loadBeginsAnew();
        errorOfTheLatestLoad();
        reportAtItsEnds();
        deviceReports();
        blockReports();
        find();
        oldest();
        totals();
        write();
        wouldCache();
        clean();
        setFailed();
        setMode();
        setPower();
        advance();
        flush();
        flushDevice();
        need();
        energyOfAndValueOf();
        bestSetAndBestValue();
        greedySet();
        quality();
        energyFor();
        extra();
        minutesLeft();
        valueAfter();
        minutesToSafety();
        gainOfRepair();
        costliest();
        save();
        restore();
        after512Calls();
        Checks.finish("BoundaryTest");
    }

    /** Promise 1: the same as a planner that has loaded this text. */
    private static void newObject() {
        FlushPlanner x = new FlushPlanner();
        FlushPlanner y = Checks.planner("battery 100 100 10 1 100;");
        for (int round = 0; round < 6; round++) {
            Checks.due("new and loaded, round " + round, Checks.picture(x), Checks.picture(y));
            for (FlushPlanner z : List.of(x, y)) {
                z.setPower(round % 2 == 1);
                z.advance(1 + 33 * round);
            }
        }
        Checks.due("drained for 1, 67 and 133 minutes", x.report(8), 1 + 67 + 100);
        Checks.due("oldest of none", x.report(4), 0);
        Checks.due("empty buffer", x.append(0, 0, 0, 0, 0), 20);
    }

    /** Promise 2: "the four bytes of each argument in order, the most significant byte first". */
    private static void append() {
        String text = "battery 100 60 5 2 5;\ndevice 1 2 3; ";
        for (int at = 0; at < 20; at++) {
            FlushPlanner x = new FlushPlanner();
            byte[] bytes = text.substring(0, 20).getBytes(java.nio.charset.StandardCharsets.ISO_8859_1);
            bytes[at] = (byte) 200;
            x.append(Checks.four(bytes, 0), Checks.four(bytes, 4), Checks.four(bytes, 8), Checks.four(bytes, 12),
                    Checks.four(bytes, 16));
            Checks.dueThrow("byte 200 at " + at, Checks.ARGUMENT, x::load);
            Checks.due("errorPosition of byte 200 at " + at, x.errorPosition(), at < 7 && at > 0 ? 0 : at);
        }
        FlushPlanner y = new FlushPlanner();
        for (int k = 1; k <= 20; k++) {
            Checks.due("append " + k, y.append(-1, -1, -1, -1, -1), 20 * k);
        }
        Checks.dueThrow("append to 420", Checks.STATE, () -> y.append(-1, -1, -1, -1, -1));
        Checks.dueThrow("load", Checks.ARGUMENT, y::load);
        Checks.due("append again", y.append(-1, -1, -1, -1, -1), 20);
    }

    /** Promise 3: lengths from 0 to the current one. */
    private static void truncate() {
        FlushPlanner x = new FlushPlanner();
        Checks.due("0 of 0", x.truncate(0), 0);
        Checks.dueThrow("1 of 0", Checks.INDEX, () -> x.truncate(1));
        Checks.append(x, "battery 1 1 1 1 1;?");
        Checks.due("19 of 19", x.truncate(19), 19);
        Checks.dueThrow("20 of 19", Checks.INDEX, () -> x.truncate(20));
        Checks.dueThrow("-1 of 19", Checks.INDEX, () -> x.truncate(-1));
        Checks.due("18 of 19", x.truncate(18), 18);
        Checks.append(x, "device 1 2 3;");
        Checks.due("appended behind the cut", x.load(), 1);
        Checks.dueThrow("1 of 0 again", Checks.INDEX, () -> x.truncate(1));
    }

    /** Promise 4: "Everything begins anew at time 0, without dirty blocks; saved states are removed." */
    private static void loadBeginsAnew() {
        String text = "battery 100 80 5 2 7; reserve 3; slots 5; mode value 20;" + TWO;
        FlushPlanner x = Checks.planner(text);
        List<Object> first = Checks.picture(x);
        Checks.fill(x, 0, 5, 30, 1, 0, 10, 1, 2, 10);
        x.save(0);
        x.save(1);
        x.clean(1);
        x.setMode(2, 0);
        x.write(1, 5, 5);
        x.setFailed(1, true);
        x.setPower(false);
        x.flush();
        x.advance(500);
        Checks.append(x, text);
        Checks.due("number of devices", x.load(), 2);
        Checks.due("everything", Checks.picture(x), first);
        for (int slot = 0; slot < 2; slot++) {
            int which = slot;
            Checks.dueThrow("saved state " + slot, Checks.ELEMENT, () -> restored(x, which));
        }
        Checks.due("empty buffer", x.append(0, 0, 0, 0, 0), 20);
    }

    private static Object restored(FlushPlanner x, int slot) {
        x.restore(slot);
        return slot;
    }

    /** Promises 5 and 6: "of the latest load(). Returns ... 0 [NONE] if there was no error or no call yet." */
    private static void errorOfTheLatestLoad() {
        FlushPlanner x = new FlushPlanner();
        error(x, 0, FlushPlanner.NONE);
        String[] texts = {"", "battery 100 101 1 1 1;", "battery 1 1 1 1 1;", "battery 1 1 1 1 1;slots 1;slots 1;",
            "battery 1 1 1 1 1;" + "device 1 1 1;".repeat(6), "battery 1 1 1 1 1;device 1 1 1;", "?"};
        int[][] errors = {{1, 0}, {2, 12}, {0, FlushPlanner.NONE}, {3, 26}, {4, 83}, {0, FlushPlanner.NONE}, {1, 0}};
        for (int k = 0; k < texts.length; k++) {
            Checks.append(x, texts[k]);
            Checks.dueThrow("load " + k, errors[k][0] == 0 ? Checks.NOTHING : Checks.ARGUMENT, x::load);
            error(x, errors[k][0], errors[k][1]);
            x.append(0, 0, 0, 0, 0);
            Checks.dueThrow("another refused call", Checks.INDEX, () -> x.truncate(21));
            x.truncate(0);
            x.advance(1);
            error(x, errors[k][0], errors[k][1]);
        }
    }

    private static void error(FlushPlanner x, int code, int position) {
        Checks.due("errorCode", x.errorCode(), code);
        Checks.due("errorPosition", x.errorPosition(), position);
    }

    /** Promise 7: "7 threshold (0 unless the mode is value)". */
    private static void reportAtItsEnds() {
        FlushPlanner x = Checks.planner("battery 500 0 50 50 1000; mode value 1;");
        int[] want = {500, 0, 0, 1, 0, 0, 1, 1, 0};
        for (int what = 0; what <= 8; what++) {
            Checks.due("report(" + what + ")", x.report(what), want[what]);
        }
        Checks.dueThrow("report(-1)", Checks.ARGUMENT, () -> x.report(-1));
        Checks.dueThrow("report(9)", Checks.ARGUMENT, () -> x.report(9));
        int[][] modes = {{0, 0}, {1, 99}, {2, 0}, {1, 1}, {0, 0}};
        for (int[] mode : modes) {
            x.setMode(mode[0], mode[1]);
            Checks.due("mode", x.report(6), mode[0]);
            Checks.due("threshold", x.report(7), mode[1]);
        }
        Checks.append(x, "battery 500 0 50 50 1000; mode value 99;");
        x.load();
        Checks.due("threshold", x.report(7), 99);
        Checks.append(x, "battery 500 0 50 50 1000; mode off;");
        x.load();
        Checks.due("no threshold", x.report(7), 0);
    }

    /** Promise 8: "4 number of its dirty blocks, 5 their value, 6 the energy ... (whether it has failed or not)". */
    private static void deviceReports() {
        FlushPlanner x = Checks.planner("battery 500 500 0 1 1; device 0 0 1; device 200 50 50;");
        int[][] want = {{0, 0, 1, 0, 0, 0, 0}, {200, 50, 50, 0, 0, 0, 0}};
        for (int d = 0; d < 2; d++) {
            for (int what = 0; what <= 6; what++) {
                Checks.due("device(" + d + ", " + what + ")", x.device(d, what), want[d][what]);
            }
        }
        for (int k = 0; k < 24; k++) {
            Checks.fill(x, 0, 99 - k, 99);
        }
        Checks.due("24 blocks", x.device(0, 4), 24);
        Checks.due("their value", x.device(0, 5), 2376);
        Checks.due("their energy", x.device(0, 6), 24);
        x.setFailed(0, true);
        Checks.due("24 blocks on a failed device", x.device(0, 4), 24);
        Checks.due("their value", x.device(0, 5), 2376);
        Checks.due("their energy", x.device(0, 6), 24);
        Checks.due("the other", x.device(1, 6), 0);
    }

    /** Promise 9: the first and the last block, and none behind it. */
    private static void blockReports() {
        FlushPlanner x = Checks.planner("battery 500 500 0 1 1; device 0 0 1;");
        Checks.dueThrow("block(0, 0) of none", Checks.INDEX, () -> x.block(0, 0));
        for (int k = 0; k < 24; k++) {
            Checks.fill(x, 0, 4 * k, k + 1);
            Checks.due("the last block", x.block(k, 1), 4 * k);
            Checks.due("its value", x.block(k, 2), k + 1);
            int behind = k + 1;
            Checks.dueThrow("none behind it", Checks.INDEX, () -> x.block(behind, 1));
        }
        Checks.dueThrow("block(23, 4)", Checks.ARGUMENT, () -> x.block(23, 4));
        Checks.dueThrow("block(23, -1)", Checks.ARGUMENT, () -> x.block(23, -1));
        Checks.dueThrow("block(24, 4)", Checks.INDEX, () -> x.block(24, 4));
    }

    /** Promise 10: "if the block is not dirty". */
    private static void find() {
        FlushPlanner x = Checks.planner("battery 500 500 0 1 1; device 0 0 1; device 0 0 1;");
        Checks.dueThrow("not dirty yet", Checks.ELEMENT, () -> x.find(0, 0));
        Checks.fill(x, 0, 0, 1, 1, 99, 1);
        Checks.due("address 0", x.find(0, 0), 0);
        Checks.due("address 99", x.find(1, 99), 1);
        Checks.dueThrow("on another device", Checks.ELEMENT, () -> x.find(1, 0));
        Checks.dueThrow("on another device", Checks.ELEMENT, () -> x.find(0, 99));
        x.setFailed(1, true);
        x.setPower(false);
        Checks.due("on a failed device with the power off", x.find(1, 99), 1);
        x.flush();
        Checks.dueThrow("flushed", Checks.ELEMENT, () -> x.find(0, 0));
        Checks.due("renumbered", x.find(1, 99), 0);
        x.advance(500);
        Checks.dueThrow("lost", Checks.ELEMENT, () -> x.find(1, 99));
    }

    /** Promise 11: "of several the one with the lowest number". */
    private static void oldest() {
        FlushPlanner x = Checks.planner("battery 500 500 0 1 1; device 0 0 1; device 0 0 1;");
        Checks.fill(x, 1, 5, 1, 1, 4, 1);
        Checks.due("both of age 0", x.oldest(), 0);
        x.advance(1);
        Checks.fill(x, 0, 1, 1, 0, 2, 1);
        Checks.due("behind two younger ones", x.oldest(), 2);
        Checks.fill(x, 1, 4, 99);
        Checks.due("a new value makes it no younger", x.oldest(), 2);
        x.setFailed(1, true);
        Checks.due("on a failed device", x.oldest(), 2);
        x.setFailed(1, false);
        x.clean(1);
        Checks.due("two are left", x.oldest(), 0);
        x.clean(0);
        Checks.dueThrow("none is left", Checks.ELEMENT, x::oldest);
    }

    /** Promise 12: "since loading", each total by itself. */
    private static void totals() {
        FlushPlanner x = Checks.planner("battery 100 50 0 10 1000; mode value 50; slots 3; device 0 0 4; device 0 0 4;");
        totals(x, 0, 0, 0, 0, 0, 0, 0);
        Checks.fill(x, 0, 1, 10, 0, 1, 20, 1, 1, 30);
        totals(x, 3, 0, 0, 0, 0, 0, 0);
        x.wouldCache(0, 2, 40);
        totals(x, 3, 0, 0, 0, 0, 0, 0);
        Checks.fill(x, 0, 2, 40);
        Checks.due("no slot", x.write(0, 3, 50), false);
        totals(x, 4, 1, 0, 0, 0, 0, 0);
        x.clean(0);
        x.clean(0);
        totals(x, 4, 1, 0, 0, 0, 0, 2);
        Checks.fill(x, 0, 1, 11, 0, 2, 12);
        x.setPower(false);
        x.flushDevice(1);
        totals(x, 6, 1, 1, 0, 30, 0, 2);
        x.advance(4);
        Checks.due("flush with 6 of 8", x.flush(), 12);
        totals(x, 6, 1, 2, 0, 42, 0, 2);
        x.advance(1);
        totals(x, 6, 1, 2, 1, 42, 11, 2);
        Checks.append(x, "?");
        Checks.dueThrow("load", Checks.ARGUMENT, x::load);
        totals(x, 6, 1, 2, 1, 42, 11, 2);
        Checks.append(x, "battery 1 1 1 1 1;");
        x.load();
        totals(x, 0, 0, 0, 0, 0, 0, 0);
    }

    private static void totals(FlushPlanner x, int... want) {
        for (int what = 0; what < 7; what++) {
            Checks.due("total(" + what + ")", x.total(what), want[what]);
        }
        Checks.dueThrow("total(7)", Checks.ARGUMENT, () -> x.total(7));
        Checks.dueThrow("total(-1)", Checks.ARGUMENT, () -> x.total(-1));
    }

    /** Promise 13: "true if it is in the cache then", also if only its value is changed. */
    private static void write() {
        FlushPlanner x = Checks.planner("battery 100 8 0 1 100; device 4 3 1;");
        Checks.due("8 of 8", x.write(0, 0, 1), true);
        Checks.due("9 of 8", x.write(0, 1, 1), false);
        Checks.due("its value", x.write(0, 0, 99), true);
        Checks.due("value", x.block(0, 2), 99);
        Checks.due("the same value", x.write(0, 0, 99), true);
        Checks.due("one block", x.report(4), 1);
        x.setPower(false);
        Checks.dueThrow("with the power off", Checks.STATE, () -> x.write(0, 0, 99));
        x.setPower(true);
        Checks.due("on again", x.write(0, 0, 98), true);
        x.setFailed(0, true);
        Checks.dueThrow("failed", Checks.STATE, () -> x.write(0, 0, 97));
        x.setFailed(0, false);
        Checks.due("repaired", x.write(0, 0, 96), true);
        Checks.due("the charge stays", x.report(1), 8);
    }

    /** Promise 14: "Returns what write() would return", and changes nothing. */
    private static void wouldCache() {
        FlushPlanner x = Checks.planner("battery 100 40 0 1 100; slots 3; mode value 40;" + TWO);
        Checks.fill(x, 0, 5, 30, 1, 0, 40);
        List<Object> before = Checks.picture(x);
        x.save(0);
        for (int address = 0; address < 8; address++) {
            for (int value = 39; value <= 41; value++) {
                for (int device = 0; device < 2; device++) {
                    boolean foretold = x.wouldCache(device, address, value);
                    Checks.due("wouldCache changes nothing", Checks.picture(x), before);
                    Checks.due("it comes true", x.write(device, address, value), foretold);
                    x.restore(0);
                }
            }
        }
    }

    /** Promise 15: "all its dirty blocks are written, which needs no energy of the battery". */
    private static void clean() {
        FlushPlanner x = Checks.planner("battery 100 0 0 1 1; mode value 99; device 200 50 50; device 1 1 1;");
        Checks.fill(x, 0, 0, 98, 0, 50, 98, 0, 99, 98, 1, 50, 1);
        Checks.due("without charge", x.clean(0), 3);
        Checks.due("none is left", x.device(0, 4), 0);
        Checks.due("the other stays", x.device(1, 4), 1);
        Checks.due("none was dirty", x.clean(0), 0);
        Checks.due("cleaned", x.total(6), 3);
        Checks.due("capacity", x.report(0), 100);
        Checks.due("discharge", x.report(8), 0);
        FlushPlanner y = Checks.planner("battery 500 500 0 1 1; device 0 0 1;");
        for (int k = 0; k < 24; k++) {
            Checks.fill(y, 0, k, 1);
        }
        Checks.due("all 24", y.clean(0), 24);
        Checks.due("empty", y.report(4), 0);
    }

    /** Promise 16: "Its dirty blocks stay in the cache." */
    private static void setFailed() {
        FlushPlanner x = Checks.planner("battery 500 500 0 1 1; device 0 0 1; device 0 0 1;");
        Checks.fill(x, 0, 1, 7, 1, 1, 8);
        x.setPower(false);
        Checks.due("with the power off", x.setFailed(1, true), false);
        Checks.due("they stay", x.report(4), 2);
        Checks.due("the best set is without it", x.bestSet(500), 1);
        Checks.due("again", x.setFailed(1, true), true);
        Checks.due("the other", x.setFailed(0, false), false);
        Checks.due("repaired", x.setFailed(1, false), true);
        Checks.due("the best set is with it", x.bestSet(500), 3);
        Checks.due("its value", x.block(1, 2), 8);
    }

    /** Promise 17: "Blocks that are dirty stay so." */
    private static void setMode() {
        FlushPlanner x = Checks.planner("battery 100 2 0 1 100; mode value 50; device 0 0 1;");
        Checks.fill(x, 0, 1, 49, 0, 3, 49, 0, 5, 49, 0, 7, 49, 0, 9, 50);
        List<int[]> modes = List.of(new int[] {0, 0, 1}, new int[] {2, 0, 0}, new int[] {1, 1, 2}, new int[] {1, 99, 1},
                new int[] {0, 0, 1}, new int[] {0, 0, 0}, new int[] {1, 50, 0});
        for (int[] mode : modes) {
            Checks.due("the previous mode", x.setMode(mode[0], mode[1]), mode[2]);
            Checks.due("they stay", x.report(4), 5);
            Checks.due("need", x.need(), 5);
        }
    }

    /** Promise 18: nothing else changes. */
    private static void setPower() {
        FlushPlanner x = Checks.planner("battery 100 2 5 1 1; mode value 50; device 0 0 1;");
        Checks.fill(x, 0, 1, 49);
        boolean[] power = {true, false, false, true, true, false};
        boolean before = true;
        for (boolean isOn : power) {
            Checks.due("what it was before", x.setPower(isOn), before);
            Checks.due("what it is", x.report(3), isOn ? 1 : 0);
            Checks.due("charge", x.report(1), 2);
            Checks.due("time", x.report(2), 0);
            Checks.due("dirty", x.report(4), 1);
            before = isOn;
        }
    }

    /** Promise 19: "minutes: 1 to 1000. Returns the value of the blocks that were lost." */
    private static void advance() {
        FlushPlanner x = Checks.planner("battery 500 500 1 1 1000; device 0 0 1;");
        Checks.fill(x, 0, 1, 49, 0, 2, 50);
        Checks.due("1", x.advance(1), 0);
        Checks.due("1000", x.advance(1000), 0);
        Checks.due("time", x.report(2), 1001);
        Checks.dueThrow("0", Checks.ARGUMENT, () -> x.advance(0));
        Checks.dueThrow("1001", Checks.ARGUMENT, () -> x.advance(1001));
        x.setPower(false);
        Checks.due("499", x.advance(499), 0);
        Checks.due("the 500th", x.advance(1), 99);
        Checks.due("none is left", x.advance(1000), 0);
        Checks.due("time", x.report(2), 2501);
        FlushPlanner one = Checks.planner("battery 500 500 1 1 1000; device 0 0 1;");
        FlushPlanner many = Checks.planner("battery 500 500 1 1 1000; device 0 0 1;");
        Checks.fill(one, 0, 1, 49);
        Checks.fill(many, 0, 1, 49);
        one.setPower(false);
        many.setPower(false);
        int lost = one.advance(700);
        for (int k = 0; k < 7; k++) {
            lost -= many.advance(100);
        }
        Checks.due("as much at once as in parts", lost, 0);
        Checks.due("as in parts", Checks.picture(one), Checks.picture(many));
    }

    /** Promise 20: "the best set for the charge is written, and the charge decreases by its energy". */
    private static void flush() {
        FlushPlanner x = Checks.planner("battery 100 53 5 1 50; mode value 99;" + TWO);
        Checks.fill(x, 0, 5, 30, 0, 6, 10, 1, 0, 40, 1, 2, 25);
        x.setPower(false);
        x.save(0);
        Checks.due("53 of 53", x.flush(), 105);
        Checks.due("charge", x.report(1), 0);
        Checks.due("none is left", x.report(4), 0);
        Checks.due("capacity", x.report(0), 99);
        Checks.due("nothing to flush", x.flush(), 0);
        Checks.due("flushed", x.total(2), 4);
        x.restore(0);
        x.advance(1);
        Checks.due("52 of 53", x.flush(), 95);
        Checks.due("charge", x.report(1), 2);
        Checks.due("what is left", x.block(0, 2), 10);
        x.restore(0);
        x.advance(37);
        Checks.due("16", x.bestSet(16), 4);
        Checks.due("the only one that fits", x.flush(), 40);
        Checks.due("charge", x.report(1), 0);
        x.restore(0);
        x.advance(38);
        Checks.due("none fits", x.flush(), 0);
        Checks.due("charge", x.report(1), 15);
        Checks.due("all are left", x.report(4), 4);
        x.setPower(true);
        Checks.dueThrow("with the power on", Checks.STATE, x::flush);
        FlushPlanner none = new FlushPlanner();
        none.setPower(false);
        Checks.due("without devices", none.flush(), 0);
    }

    /** Promise 21: "0 if it is empty"; "the power is on, the device has failed, or the charge is less than the energy". */
    private static void flushDevice() {
        FlushPlanner x = Checks.planner("battery 100 32 5 1 50; mode value 99;" + TWO);
        Checks.fill(x, 0, 5, 30, 0, 6, 10);
        Checks.dueThrow("the power is on", Checks.STATE, () -> x.flushDevice(0));
        Checks.dueThrow("the power is on, the set empty", Checks.STATE, () -> x.flushDevice(1));
        x.setPower(false);
        x.save(0);
        Checks.due("31 of 32", x.flushDevice(0), 40);
        Checks.due("charge", x.report(1), 1);
        Checks.due("empty now", x.flushDevice(0), 0);
        Checks.due("charge", x.report(1), 1);
        x.restore(0);
        x.advance(1);
        Checks.due("31 of 31", x.flushDevice(0), 40);
        Checks.due("charge", x.report(1), 0);
        Checks.due("empty, without charge", x.flushDevice(1), 0);
        x.setFailed(1, true);
        Checks.dueThrow("empty, failed", Checks.STATE, () -> x.flushDevice(1));
        x.restore(0);
        x.advance(2);
        Checks.dueThrow("31 of 30", Checks.STATE, () -> x.flushDevice(0));
        Checks.due("a part of it", x.flush(), 30);
    }

    /** Promise 22. */
    private static void need() {
        FlushPlanner x = Checks.planner("battery 500 500 5 1 50;" + TWO);
        Checks.due("of none", x.need(), 0);
        Checks.fill(x, 0, 5, 1);
        Checks.due("of one", x.need(), 28);
        Checks.fill(x, 0, 7, 1);
        Checks.due("of two runs", x.need(), 36);
        Checks.fill(x, 0, 6, 1);
        Checks.due("of one run", x.need(), 34);
        Checks.fill(x, 1, 6, 1);
        Checks.due("of two devices", x.need(), 50);
        x.setFailed(0, true);
        Checks.due("of one device", x.need(), 16);
        x.setFailed(1, true);
        Checks.due("of no device", x.need(), 0);
        x.setPower(false);
        x.setFailed(0, false);
        Checks.due("with the power off", x.need(), 34);
    }

    /** Promises 23 and 24: "if the set contains other than dirty blocks". */
    private static void energyOfAndValueOf() {
        FlushPlanner x = Checks.planner("battery 500 500 5 1 50;" + TWO);
        for (int count = 0; count < 5; count++) {
            int all = (1 << count) - 1;
            int other = 1 << count;
            Checks.due("energy of all " + count, x.energyOf(all), x.need());
            Checks.due("value of all " + count, x.valueOf(all), 7 * count);
            Checks.dueThrow("energy of another", Checks.ARGUMENT, () -> x.energyOf(other));
            Checks.dueThrow("value of another", Checks.ARGUMENT, () -> x.valueOf(other));
            Checks.dueThrow("energy of all and another", Checks.ARGUMENT, () -> x.energyOf(all | other));
            Checks.dueThrow("value of all and bit 31", Checks.ARGUMENT, () -> x.valueOf(all | 1 << 31));
            Checks.fill(x, count % 2, count, 7);
        }
    }

    /** Promises 25 and 26: "energy: 0 to 500". */
    private static void bestSetAndBestValue() {
        FlushPlanner x = Checks.planner("battery 500 500 5 1 50; mode value 99; device 200 50 50; device 150 40 10;");
        Checks.fill(x, 0, 5, 9, 1, 5, 8);
        int[][] want = {{0, 0, 0}, {199, 0, 0}, {200, 2, 8}, {299, 2, 8}, {300, 1, 9}, {499, 1, 9}, {500, 3, 17}};
        for (int[] row : want) {
            Checks.due("bestSet(" + row[0] + ")", x.bestSet(row[0]), row[1]);
            Checks.due("bestValue(" + row[0] + ")", x.bestValue(row[0]), row[2]);
        }
        Checks.due("bestValue of none", new FlushPlanner().bestValue(500), 0);
        Checks.due("bestSet of none", new FlushPlanner().bestSet(0), 0);
        x.setPower(false);
        x.advance(500);
        Checks.due("bestSet of lost blocks", x.bestSet(500), 0);
        Checks.due("bestValue of lost blocks", x.bestValue(500), 0);
    }

    /** Promise 27: "energy: 0 to 500". */
    private static void greedySet() {
        FlushPlanner x = Checks.planner("battery 500 500 5 1 50; mode value 99; device 200 50 50; device 150 40 10;");
        Checks.fill(x, 0, 5, 9, 1, 5, 8);
        int[][] want = {{0, 0}, {199, 0}, {200, 2}, {299, 2}, {300, 1}, {499, 1}, {500, 3}};
        for (int[] row : want) {
            Checks.due("greedySet(" + row[0] + ")", x.greedySet(row[0]), row[1]);
        }
        x.setFailed(0, true);
        x.setFailed(1, true);
        Checks.due("greedySet of failed devices", x.greedySet(500), 0);
    }

    /** Promise 28: "as doubles"; "if the value of the best set is 0". */
    private static void quality() {
        FlushPlanner x = Checks.planner("battery 500 500 5 1 50; device 0 0 3; device 0 0 2;");
        Checks.fill(x, 0, 5, 3, 1, 5, 2, 1, 7, 2);
        Checks.dueThrow("quality(1)", Checks.ELEMENT, () -> x.quality(1));
        Checks.due("quality(2)", x.quality(2), 1.0);
        Checks.due("quality(3)", x.quality(3), 1.0);
        Checks.due("quality(4)", x.quality(4), 0.75);
        Checks.due("quality(5)", x.quality(5), 1.0);
        Checks.due("quality(500)", x.quality(500), 1.0);
        Checks.fill(x, 0, 5, 3, 1, 9, 2);
        Checks.due("quality(6)", x.quality(6), 5.0 / 6.0);
        x.setFailed(0, true);
        x.setFailed(1, true);
        Checks.dueThrow("quality(500) of failed devices", Checks.ELEMENT, () -> x.quality(500));
        Checks.dueThrow("quality(501) of failed devices", Checks.ARGUMENT, () -> x.quality(501));
    }

    /** Promise 29: "value: 0 to 2376"; "if there is none up to 500". */
    private static void energyFor() {
        FlushPlanner x = Checks.planner("battery 500 500 5 1 50; mode value 99; device 200 50 50; device 150 40 10; device 0 0 1;");
        Checks.due("energyFor(0) of none", x.energyFor(0), 0);
        Checks.dueThrow("energyFor(1) of none", Checks.ELEMENT, () -> x.energyFor(1));
        Checks.fill(x, 0, 5, 9, 1, 5, 8);
        int[][] want = {{0, 0}, {1, 200}, {8, 200}, {9, 300}, {10, 500}, {17, 500}};
        for (int[] row : want) {
            Checks.due("energyFor(" + row[0] + ")", x.energyFor(row[0]), row[1]);
        }
        Checks.dueThrow("energyFor(18)", Checks.ELEMENT, () -> x.energyFor(18));
        Checks.fill(x, 2, 5, 1);
        Checks.due("energyFor(1)", x.energyFor(1), 1);
        Checks.due("energyFor(10)", x.energyFor(10), 301);
        Checks.due("energyFor(17)", x.energyFor(17), 500);
        Checks.dueThrow("501 are too much", Checks.ELEMENT, () -> x.energyFor(18));
        x.setPower(false);
        x.advance(499);
        Checks.due("whatever the charge is", x.energyFor(17), 500);
    }

    /** Promise 30: "the difference of the energy of this set with the block and without it. ... 0 if the set contains the block." */
    private static void extra() {
        FlushPlanner x = Checks.planner("battery 100 38 5 1 50; mode value 99; device 20 5 3; device 10 4 2; device 50 50 50;");
        Checks.fill(x, 0, 5, 90, 0, 6, 1, 0, 8, 2, 1, 9, 1, 2, 9, 1);
        Checks.due("36 of 38", x.bestSet(38), 5);
        int[] want = {0, 3, 0, 16, 150};
        for (int k = 0; k < want.length; k++) {
            Checks.due("extra(" + k + ")", x.extra(k), want[k]);
        }
        Checks.dueThrow("extra(5)", Checks.INDEX, () -> x.extra(5));
        Checks.dueThrow("extra(-1)", Checks.INDEX, () -> x.extra(-1));
        x.setFailed(2, true);
        Checks.dueThrow("extra of a failed device", Checks.STATE, () -> x.extra(4));
        x.setPower(false);
        x.advance(37);
        Checks.due("the empty set", x.bestSet(1), 0);
        int[] alone = {28, 28, 28, 16};
        for (int k = 0; k < alone.length; k++) {
            Checks.due("extra(" + k + ") to nothing", x.extra(k), alone[k]);
        }
    }

    /** Promise 31: "NONE if the need is greater than the charge now, or if it is 0." */
    private static void minutesLeft() {
        int[] want = {FlushPlanner.NONE, 0, 0, 0, 1, 1, 1, 2};
        for (int k = 0; k < want.length; k++) {
            FlushPlanner x = Checks.planner("battery 100 " + (15 + k) + " 5 3 1; mode value 99; device 10 4 2;");
            Checks.due("no need", x.minutesLeft(), FlushPlanner.NONE);
            Checks.fill(x, 0, 5, 1);
            Checks.due("16 of " + (15 + k), x.minutesLeft(), want[k]);
            x.setPower(false);
            Checks.due("the same with the power off", x.minutesLeft(), want[k]);
            x.setFailed(0, true);
            Checks.due("no need", x.minutesLeft(), FlushPlanner.NONE);
        }
        FlushPlanner empty = Checks.planner("battery 100 0 5 3 1; mode value 99; device 10 4 2;");
        Checks.due("no need, no charge", empty.minutesLeft(), FlushPlanner.NONE);
        Checks.fill(empty, 0, 5, 1);
        Checks.due("no charge", empty.minutesLeft(), FlushPlanner.NONE);
    }

    /** Promise 32: "minutes: 0 to 1000"; "0 if the blocks would be lost before". */
    private static void valueAfter() {
        FlushPlanner x = Checks.planner("battery 100 9 5 3 1; device 0 0 3; device 0 0 4;");
        Checks.fill(x, 0, 5, 7, 1, 5, 8);
        int[][] want = {{0, 15}, {1, 8}, {2, 7}, {3, 0}, {4, 0}, {1000, 0}};
        List<Object> before = Checks.picture(x);
        for (int[] row : want) {
            Checks.due("valueAfter(" + row[0] + ")", x.valueAfter(row[0]), row[1]);
        }
        Checks.due("nothing changes", Checks.picture(x), before);
        for (int[] row : want) {
            x.save(0);
            x.setPower(false);
            if (row[0] > 0) {
                x.advance(row[0]);
            }
            Checks.due("it comes true after " + row[0], x.flush(), row[1]);
            x.restore(0);
        }
        FlushPlanner y = Checks.planner("battery 500 500 5 1 1; device 0 0 1;");
        Checks.fill(y, 0, 5, 7);
        Checks.due("the last minute", y.valueAfter(499), 7);
        Checks.due("lost", y.valueAfter(500), 0);
        Checks.due("without blocks", new FlushPlanner().valueAfter(0), 0);
    }

    /** Promise 33: "0 if it does already; NONE if it never would". */
    private static void minutesToSafety() {
        int[] want = {0, 0, 1, 2, 3, 4, 5};
        for (int k = 0; k < want.length; k++) {
            FlushPlanner x = Checks.planner("battery 20 " + (17 - k) + " 1 1 1; reserve 10; mode value 99; device 0 0 6;");
            Checks.fill(x, 0, 0, 1);
            Checks.due("16 from " + (17 - k), x.minutesToSafety(), want[k]);
            x.setPower(false);
            Checks.due("the same with the power off", x.minutesToSafety(), want[k]);
        }
        int[] rates = {FlushPlanner.NONE, 10, 5, 4, 3, 2, 2, 2, 2, 2, 1, 1};
        for (int rate = 0; rate < rates.length; rate++) {
            FlushPlanner x = Checks.planner("battery 20 6 " + rate + " 1 1; reserve 16;");
            Checks.due("10 at the rate " + rate, x.minutesToSafety(), rates[rate]);
        }
        Checks.due("capacity 20 of 20", Checks.planner("battery 20 0 50 1 1; reserve 20;").minutesToSafety(), 1);
        Checks.due("capacity 20 of 21", Checks.planner("battery 20 20 50 1 1; reserve 21;").minutesToSafety(), FlushPlanner.NONE);
        Checks.due("without a rate, but safe", Checks.planner("battery 20 20 0 1 1; reserve 20;").minutesToSafety(), 0);
        FlushPlanner y = Checks.planner("battery 20 20 50 1 1; reserve 19;");
        y.setPower(false);
        y.advance(1);
        Checks.due("the worn capacity is enough", y.minutesToSafety(), 0);
        y.advance(1);
        Checks.due("the worn capacity is not", y.minutesToSafety(), FlushPlanner.NONE);
    }

    /** Promise 34: "0 if the device has not failed". */
    private static void gainOfRepair() {
        FlushPlanner x = Checks.planner("battery 100 4 5 1 50; mode value 99; device 0 0 2; device 0 0 2; device 0 0 5;");
        Checks.fill(x, 0, 0, 10, 0, 2, 9, 1, 0, 30, 2, 0, 98);
        List<Object> before = Checks.picture(x);
        for (int d = 0; d < 3; d++) {
            Checks.due("not failed", x.gainOfRepair(d), 0);
        }
        Checks.due("nothing changes", Checks.picture(x), before);
        x.setFailed(1, true);
        x.setFailed(2, true);
        Checks.due("30 for 9", x.gainOfRepair(1), 21);
        Checks.due("it does not fit", x.gainOfRepair(2), 0);
        Checks.due("it stays failed", x.device(1, 3), 1);
        x.setPower(false);
        x.advance(4);
        Checks.due("nothing is left", x.gainOfRepair(1), 0);
        FlushPlanner y = Checks.planner("battery 100 4 5 1 50; device 0 0 2;");
        y.setFailed(0, true);
        Checks.due("no blocks", y.gainOfRepair(0), 0);
    }

    /** Promise 35: "(compared exactly); of several the lowest"; "if there is none". */
    private static void costliest() {
        FlushPlanner x = Checks.planner("battery 500 500 5 1 50; mode value 99;"
                + "device 0 0 1; device 0 0 1; device 1 0 2; device 199 49 50;");
        Checks.fill(x, 1, 0, 98, 0, 0, 98);
        Checks.due("equal: the lowest", x.costliest(), 0);
        Checks.fill(x, 1, 0, 97);
        Checks.due("1/97 > 1/98", x.costliest(), 1);
        Checks.fill(x, 0, 2, 96);
        Checks.due("1/97 = 2/194", x.costliest(), 0);
        Checks.fill(x, 0, 2, 97);
        Checks.due("1/97 > 2/195", x.costliest(), 1);
        x.setFailed(1, true);
        Checks.due("the other", x.costliest(), 0);
        Checks.fill(x, 3, 0, 1);
        Checks.due("298/1", x.costliest(), 3);
        x.setFailed(3, true);
        Checks.fill(x, 2, 0, 98);
        Checks.due("3/98", x.costliest(), 2);
        x.setFailed(2, true);
        x.setFailed(0, true);
        Checks.dueThrow("all failed", Checks.ELEMENT, x::costliest);
        x.setFailed(0, false);
        x.clean(0);
        Checks.dueThrow("the only one has no blocks", Checks.ELEMENT, x::costliest);
        x.setFailed(3, false);
        x.setPower(false);
        Checks.due("with the power off", x.costliest(), 3);
    }

    /** Promise 36: "in place of what was saved there". */
    private static void save() {
        FlushPlanner x = Checks.planner("battery 100 50 5 1 50;" + TWO);
        for (int k = 0; k < 3; k++) {
            x.save(0);
            x.advance(1);
        }
        x.restore(0);
        Checks.due("the latest", x.report(2), 2);
        Checks.dueThrow("nothing in slot 1", Checks.ELEMENT, () -> restored(x, 1));
        x.save(1);
        x.advance(5);
        x.restore(1);
        Checks.due("slot 1", x.report(2), 2);
        x.advance(5);
        x.save(1);
        x.restore(0);
        Checks.due("slot 0", x.report(2), 2);
        x.restore(1);
        Checks.due("slot 1", x.report(2), 7);
    }

    /** Promise 37: "It stays saved." What happens behind save() or restore() does not reach it. */
    private static void restore() {
        FlushPlanner x = Checks.planner("battery 100 99 5 1 3; mode value 50; slots 4;" + TWO);
        Checks.fill(x, 0, 5, 30, 1, 0, 40);
        x.advance(1);
        x.save(1);
        List<Object> before = Checks.picture(x);
        for (int round = 0; round < 3; round++) {
            x.write(0, 4, 49);
            x.write(1, 0, 41);
            x.write(1, 50, 42);
            x.setFailed(round % 2, true);
            x.setMode(round, round % 2);
            x.setPower(false);
            x.flush();
            x.advance(200);
            x.restore(1);
            Checks.due("restored", Checks.picture(x), before);
        }
        Checks.due("slots and mode go on", x.write(0, 7, 49), true);
        Checks.due("slots and mode go on", x.write(0, 8, 49), true);
        Checks.due("slots and mode go on", x.write(0, 9, 49), false);
        x.setPower(false);
        x.advance(3);
        Checks.due("drain and wear go on", x.report(0), 99);
    }

    /** "An object is used for at most 512 calls after it has been made". */
    private static void after512Calls() {
        FlushPlanner x = Checks.planner("battery 500 500 50 50 1; mode value 99; device 0 0 1;");
        Checks.fill(x, 0, 0, 1);
        for (int k = 0; k < 500; k++) {
            Checks.due("nothing is lost", x.advance(1000), 0);
        }
        Checks.due("time", x.report(2), 500000);
        Checks.due("age", x.block(0, 3), 500000);
        FlushPlanner y = Checks.planner("battery 500 500 50 50 1000;");
        for (int k = 0; k < 120; k++) {
            y.setPower(k % 2 == 1);
            y.advance(1000);
        }
        // 60 times all that the battery had; the capacity has lost 1 for each 1000 of it.
        Checks.due("capacity", y.report(0), 500 - y.report(8) / 1000);
        Checks.due("full", y.report(1), y.report(0));
        Checks.due("discharge", y.report(8), 29165);
    }
}
