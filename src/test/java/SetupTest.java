/** Promises 1 to 6: the new object, the text buffer, load and its errors. */
public final class SetupTest {
    private static final String BATTERY = "battery 100 60 5 2 50;";

    private SetupTest() {
    }

    public static void main(String[] args) {
        newObject();
        append();
        truncate();
        load();
        loadDefaults();
        failedLoad();
        numbers();
        tokens();
        repeatedSettings();
        tooManyDevices();
        orderOfErrors();
        Checks.finish("SetupTest");
    }

    private static void newObject() {
        FlushPlanner x = new FlushPlanner();
        int[] want = {100, 100, 0, 1, 0, 0, 0, 0, 0};
        for (int k = 0; k < want.length; k++) {
            Checks.due("new report " + k, x.report(k), want[k]);
        }
        for (int k = 0; k < 7; k++) {
            Checks.due("new total " + k, x.total(k), 0);
        }
        Checks.due("new errorCode", x.errorCode(), 0);
        Checks.due("new errorPosition", x.errorPosition(), FlushPlanner.NONE);
        Checks.due("new buffer", x.truncate(0), 0);
        Checks.dueThrow("new buffer of length 1", Checks.INDEX, () -> x.truncate(1));
        Checks.due("new need", x.need(), 0);
        x.setPower(false);
        x.advance(3);
        Checks.due("new drain", x.report(1), 97);
        x.setPower(true);
        x.advance(1);
        Checks.due("new rate", x.report(1), 100);
        x.setPower(false);
        x.advance(96);
        Checks.due("new wear: not yet", x.report(0), 100);
        x.advance(1);
        Checks.due("new wear", x.report(0), 99);
        x.advance(1000);
        Checks.due("no charge", x.report(1), 0);
        Checks.due("no reserve", x.minutesToSafety(), 0);
        x.setPower(true);
        x.advance(1);
        Checks.due("new rate of 10", x.report(1), 10);
    }

    private static void append() {
        FlushPlanner x = new FlushPlanner();
        for (int k = 1; k <= 20; k++) {
            Checks.due("append " + k, x.append(0x20202020, 0x20202020, 0x0a0a0a0a, 0x20202020, 0x20202020), 20 * k);
        }
        Checks.dueThrow("append 21", Checks.STATE, () -> x.append(0, 0, 0, 0, 0));
        Checks.due("the length stays", x.truncate(400), 400);
        Checks.due("truncate to 381", x.truncate(381), 381);
        Checks.dueThrow("append to 401", Checks.STATE, () -> x.append(0, 0, 0, 0, 0));
        Checks.due("truncate to 380", x.truncate(380), 380);
        Checks.due("append to 400", x.append(0, 0, 0, 0, 0), 400);
        // "battery 100 60 5 2 5" and "0 ;": the most significant byte comes first.
        FlushPlanner y = new FlushPlanner();
        y.append(0x62617474, 0x65727920, 0x31303020, 0x36302035, 0x20322035);
        y.append(0x30203b00, -1, -1, -1, -1);
        y.truncate(23);
        Checks.due("load of bytes in order", y.load(), 0);
        Checks.due("charge", y.report(1), 60);
    }

    private static void truncate() {
        FlushPlanner x = new FlushPlanner();
        Checks.dueThrow("truncate(-1)", Checks.INDEX, () -> x.truncate(-1));
        Checks.dueThrow("truncate(min)", Checks.INDEX, () -> x.truncate(Integer.MIN_VALUE));
        x.append(0, 0, 0, 0, 0);
        Checks.dueThrow("truncate(21)", Checks.INDEX, () -> x.truncate(21));
        Checks.due("truncate(20)", x.truncate(20), 20);
        Checks.due("truncate(7)", x.truncate(7), 7);
        Checks.dueThrow("truncate(8)", Checks.INDEX, () -> x.truncate(8));
        Checks.due("append behind it", x.append(0, 0, 0, 0, 0), 27);
        Checks.due("truncate(0)", x.truncate(0), 0);
    }

    private static void load() {
        FlushPlanner x = Checks.planner(BATTERY + "device 20 5 3;");
        Checks.fill(x, 0, 1, 9);
        x.setFailed(0, true);
        x.setPower(false);
        x.advance(7);
        x.setMode(2, 0);
        x.save(0);
        x.save(1);
        Checks.append(x, "battery 500 0 50 50 1000 ; mode value 99;slots 1; reserve 200;"
                + "device 0 0 1;device 200 50 50; device 1 2 3; device 4 5 6;\ndevice 7 8 9;\n ");
        Checks.due("load", x.load(), 5);
        int[] want = {500, 0, 0, 1, 0, 5, 1, 99, 0};
        for (int k = 0; k < want.length; k++) {
            Checks.due("loaded report " + k, x.report(k), want[k]);
        }
        Checks.due("loaded total", x.total(0), 0);
        Checks.due("not failed", x.device(0, 3), 0);
        Checks.due("spin-up", x.device(1, 0), 200);
        Checks.due("seek", x.device(1, 1), 50);
        Checks.due("write", x.device(1, 2), 50);
        Checks.due("the last device", x.device(4, 2), 9);
        Checks.dueThrow("no saved state in 0", Checks.ELEMENT, () -> restored(x, 0));
        Checks.dueThrow("no saved state in 1", Checks.ELEMENT, () -> restored(x, 1));
        Checks.dueThrow("the buffer is empty", Checks.INDEX, () -> x.truncate(1));
        Checks.due("errorCode", x.errorCode(), 0);
        Checks.due("errorPosition", x.errorPosition(), FlushPlanner.NONE);
        Checks.due("minutes to the reserve", x.minutesToSafety(), 4);
        x.advance(5);
        Checks.due("one slot", x.write(0, 1, 98), true);
        Checks.due("no second slot", x.write(0, 2, 98), false);
    }

    private static void loadDefaults() {
        FlushPlanner x = Checks.planner("battery 500 500 0 1 1000; mode off; slots 2; reserve 100; device 0 0 1;");
        Checks.due("mode", x.report(6), 2);
        Checks.append(x, "battery 500 100 0 1 1000; device 0 0 1;");
        x.load();
        Checks.due("strict by default", x.report(6), 0);
        for (int k = 0; k < 24; k++) {
            Checks.due("24 slots and no reserve by default", x.write(0, k, 1), true);
        }
        Checks.due("no 25th slot", x.write(0, 24, 1), false);
        Checks.append(x, "battery 500 100 0 1 1000; mode strict;");
        Checks.due("no device", x.load(), 0);
        Checks.due("strict", x.report(6), 0);
    }

    private static void failedLoad() {
        FlushPlanner x = Checks.planner(BATTERY + "device 20 5 3;");
        Checks.fill(x, 0, 1, 9);
        x.advance(1);
        x.save(1);
        Checks.append(x, "battery 100 100 10 1 100; device 1 1 1; device 1 1 51;");
        Checks.dueThrow("load", Checks.ARGUMENT, x::load);
        Checks.due("errorCode", x.errorCode(), 2);
        Checks.due("errorPosition", x.errorPosition(), 51);
        Checks.dueThrow("the buffer is empty", Checks.INDEX, () -> x.truncate(1));
        Checks.due("the devices stay", x.report(5), 1);
        Checks.due("the charge stays", x.report(1), 65);
        Checks.due("the blocks stay", x.block(0, 2), 9);
        Checks.due("the time stays", x.report(2), 1);
        Checks.dueThrow("saved states stay", Checks.NOTHING, () -> restored(x, 1));
        Checks.due("the error stays", x.errorCode(), 2);
        Checks.append(x, BATTERY);
        Checks.due("load", x.load(), 0);
        Checks.due("no errorCode", x.errorCode(), 0);
        Checks.due("no errorPosition", x.errorPosition(), FlushPlanner.NONE);
    }

    private static void numbers() {
        Checks.accepted("battery 1 0 0 1 1;");
        Checks.accepted("battery 500 500 50 50 1000;");
        Checks.accepted("battery 0500 0000 0050 01 0001;");
        Checks.refused("battery 0 0 0 1 1;", 2, 8);
        Checks.refused("battery 501 0 0 1 1;", 2, 8);
        Checks.refused("battery 50 51 0 1 1;", 2, 11);
        Checks.refused("battery 50 50 51 1 1;", 2, 14);
        Checks.refused("battery 50 50 50 0 1;", 2, 17);
        Checks.refused("battery 50 50 50 51 1;", 2, 17);
        Checks.refused("battery 50 50 50 50 0;", 2, 20);
        Checks.refused("battery 50 50 50 50 1001;", 2, 20);
        Checks.accepted(BATTERY + "reserve 0;");
        Checks.accepted(BATTERY + "reserve 200;");
        Checks.refused(BATTERY + "reserve 201;", 2, 30);
        Checks.accepted(BATTERY + "slots 1;");
        Checks.accepted(BATTERY + "slots 24;");
        Checks.refused(BATTERY + "slots 0;", 2, 28);
        Checks.refused(BATTERY + "slots 25;", 2, 28);
        Checks.accepted(BATTERY + "mode value 1;");
        Checks.refused(BATTERY + "mode value 0;", 2, 33);
        Checks.refused(BATTERY + "mode value 100;", 2, 33);
        Checks.refused(BATTERY + "device 201 0 1;", 2, 29);
        Checks.refused(BATTERY + "device 200 51 1;", 2, 33);
        Checks.refused(BATTERY + "device 200 50 0;", 2, 36);
        Checks.refused(BATTERY + "device 200 50 51;", 2, 36);
        Checks.refused("battery 12345 0 0 1 1;", 1, 8);
        Checks.refused("battery 00001 0 0 1 1;", 1, 8);
    }

    private static void tokens() {
        Checks.accepted("battery100 60 5 2 50;slots3;mode value20;device1 2 3;");
        Checks.accepted("\n battery\n100 60 5 2 50 ;");
        Checks.refused("", 1, 0);
        Checks.refused("  \n", 1, 3);
        Checks.refused("battery", 1, 7);
        Checks.refused("battery 100 60 5 2 50", 1, 21);
        Checks.refused("battery 100 60 5 2 50  ", 1, 23);
        Checks.refused("battery 100 60 5 2;", 1, 18);
        Checks.refused("battery 100 60 5 2 50 7;", 1, 22);
        Checks.refused("batter 100 60 5 2 50;", 1, 0);
        Checks.refused("batterys 100 60 5 2 50;", 1, 0);
        Checks.refused("batteryz 100 60 5 2 50;", 1, 0);
        Checks.refused("100 60 5 2 50;", 1, 0);
        Checks.refused("battery 100 60 5 2 50 slots 3;", 1, 22);
        Checks.refused("Battery 100 60 5 2 50;", 1, 0);
        Checks.refused("batterY 100 60 5 2 50;", 1, 0);
        Checks.refused("batteryY 100 60 5 2 50;", 1, 7);
        Checks.refused("battery -1 60 5 2 50;", 1, 8);
        Checks.refused("battery 100\t60 5 2 50;", 1, 11);
        Checks.refused("battery 100 60 5 2 50;;", 1, 22);
        Checks.refused(BATTERY + "\u0000", 1, 22);
        Checks.refused(BATTERY + "\u00ff", 1, 22);
        Checks.refused(BATTERY + "7", 1, 22);
        Checks.refused(BATTERY + "battery", 1, 22);
        Checks.refused(BATTERY + "reserve", 1, 29);
        Checks.refused(BATTERY + "reserve 5 5;", 1, 32);
        Checks.refused(BATTERY + "reserve slots;", 1, 30);
        Checks.refused(BATTERY + "mode strict 5;", 1, 34);
        Checks.refused(BATTERY + "mode value;", 1, 32);
        Checks.refused(BATTERY + "mode on;", 1, 27);
        Checks.refused(BATTERY + "mode;", 1, 26);
        Checks.refused(BATTERY + "reserve 5 slots 3;", 1, 32);
        Checks.refused(BATTERY + "mode 1;", 1, 27);
        Checks.refused(BATTERY + "device 1 2;", 1, 32);
        Checks.refused(BATTERY + "devices 1 2 3;", 1, 22);
        Checks.refused(BATTERY + "device 1 2 3; slots 5;", 1, 36);
    }

    private static void repeatedSettings() {
        Checks.accepted(BATTERY + "mode off;reserve 1;slots 3;");
        Checks.refused(BATTERY + "mode off;mode off;", 3, 31);
        Checks.refused(BATTERY + "slots 5;slots 0;", 3, 30);
        Checks.refused(BATTERY + "reserve 5; mode off; reserve", 3, 43);
        Checks.refused(BATTERY + "mode off;reserve 1;slots 3;slots 3;", 3, 49);
        Checks.refused(BATTERY + "slots 3; device 1 2 3; slots 3;", 1, 45);
    }

    private static void tooManyDevices() {
        String five = BATTERY + "device 1 2 3;device 1 2 3;device 1 2 3;device 1 2 3;device 1 2 3;";
        Checks.accepted(five);
        Checks.refused(five + "device 1 2 3;", 4, five.length());
        Checks.refused(five + " device", 4, five.length() + 1);
        Checks.refused(five + "devices", 1, five.length());
        Checks.refused(five + "slots", 1, five.length());
    }

    private static void orderOfErrors() {
        Checks.refused("battery 501 ?", 2, 8);
        Checks.refused("battery 100 101 51 0 0", 2, 12);
        Checks.refused(BATTERY + "mode off;mode ?", 3, 31);
        Checks.refused("battery 99999", 1, 8);
    }

    private static Object restored(FlushPlanner x, int slot) {
        x.restore(slot);
        return slot;
    }
}
