/** THE BATTERY of the description, a test for each sentence. */
public final class BatteryTest {
    private BatteryTest() {
    }

    public static void main(String[] args) {
        powerIsOnAtFirst();
        chargeIncreasesToTheCapacity();
        chargeDecreasesToZero();
        whateverDecreasesTheCharge();
        whatDoesNotDecreaseTheCharge();
        dischargeReachesMultiple();
        dischargePassesMultiple();
        severalMultiplesAtOnce();
        noMultipleWithoutDischarge();
        capacityNotBelowOne();
        chargeNeverAboveTheCapacity();
        lostAtTheEndOfTheMinute();
        notLostWithThePowerOn();
        lostOfAllDevices();
        Checks.finish("BatteryTest");
    }

    private static void battery(String name, FlushPlanner x, int capacity, int charge, int discharge) {
        Checks.due(name + ": capacity", x.report(0), capacity);
        Checks.due(name + ": charge", x.report(1), charge);
        Checks.due(name + ": discharge", x.report(8), discharge);
    }

    private static FlushPlanner off(String text) {
        FlushPlanner x = Checks.planner(text);
        x.setPower(false);
        return x;
    }

    private static void charge(FlushPlanner x, int minutes) {
        x.setPower(true);
        x.advance(minutes);
        x.setPower(false);
    }

    /** "The power is on at first." */
    private static void powerIsOnAtFirst() {
        FlushPlanner x = new FlushPlanner();
        Checks.due("new", x.report(3), 1);
        x.setPower(false);
        Checks.append(x, "battery 10 5 1 1 1;");
        x.load();
        Checks.due("loaded", x.report(3), 1);
        x.advance(1);
        battery("loaded", x, 10, 6, 0);
    }

    /** "In each minute with the power on, the charge increases by the charging rate, but at most to the capacity." */
    private static void chargeIncreasesToTheCapacity() {
        FlushPlanner x = Checks.planner("battery 100 79 7 1 1;");
        x.advance(2);
        battery("below", x, 100, 93, 0);
        x.advance(1);
        battery("just full", x, 100, 100, 0);
        x.advance(1);
        battery("full", x, 100, 100, 0);
        FlushPlanner y = Checks.planner("battery 100 94 7 1 1;");
        y.advance(1);
        battery("cut", y, 100, 100, 0);
        FlushPlanner z = Checks.planner("battery 100 94 0 1 1;");
        z.advance(1000);
        battery("no rate", z, 100, 94, 0);
        FlushPlanner w = Checks.planner("battery 500 0 50 1 1;");
        w.advance(9);
        battery("from 0", w, 500, 450, 0);
        w.advance(1000);
        battery("to 500", w, 500, 500, 0);
    }

    /** "In each minute with the power off, the charge decreases by the drain, but at most to 0." */
    private static void chargeDecreasesToZero() {
        FlushPlanner x = off("battery 100 14 50 7 1000;");
        x.advance(1);
        battery("above", x, 100, 7, 7);
        x.advance(1);
        battery("just empty", x, 100, 0, 14);
        x.advance(1000);
        battery("empty", x, 100, 0, 14);
        FlushPlanner y = off("battery 100 6 50 7 1000;");
        y.advance(1);
        battery("cut", y, 100, 0, 6);
        FlushPlanner z = off("battery 100 0 50 50 1;");
        z.advance(1);
        battery("empty from the beginning", z, 100, 0, 0);
    }

    /** "Whatever decreases the charge adds to the discharge, which is 0 at first". */
    private static void whateverDecreasesTheCharge() {
        FlushPlanner x = Checks.planner("battery 500 500 5 3 1000; device 10 5 2; device 20 4 1;");
        Checks.fill(x, 0, 1, 9, 1, 1, 9);
        battery("at first", x, 500, 500, 0);
        x.setPower(false);
        x.advance(2);
        battery("the drain", x, 500, 494, 6);
        x.flushDevice(0);
        battery("flushDevice", x, 500, 477, 23);
        x.flush();
        battery("flush", x, 500, 452, 48);
        Checks.append(x, "battery 500 500 5 3 1000;");
        x.load();
        battery("loaded", x, 500, 500, 0);
    }

    private static void whatDoesNotDecreaseTheCharge() {
        FlushPlanner x = Checks.planner("battery 500 100 5 3 1; device 10 5 2; device 20 4 1;");
        Checks.fill(x, 0, 1, 9, 1, 1, 9);
        x.clean(0);
        x.write(0, 5, 5);
        x.setMode(2, 0);
        x.write(1, 1, 5);
        battery("clean and write", x, 500, 100, 0);
        x.setPower(false);
        battery("setPower", x, 500, 100, 0);
        x.setFailed(0, true);
        Checks.due("nothing to flush", x.flush(), 0);
        Checks.due("nothing to flush", x.flushDevice(1), 0);
        battery("an empty flush", x, 500, 100, 0);
        x.minutesLeft();
        x.valueAfter(1000);
        x.minutesToSafety();
        x.gainOfRepair(0);
        battery("predictions", x, 500, 100, 0);
    }

    /** "whenever the discharge reaches ... a multiple of wear, the capacity decreases by 1". */
    private static void dischargeReachesMultiple() {
        FlushPlanner x = off("battery 100 100 50 5 15;");
        x.advance(2);
        battery("10 of 15", x, 100, 90, 10);
        x.advance(1);
        battery("15 of 15", x, 99, 85, 15);
        x.advance(2);
        battery("25 of 30", x, 99, 75, 25);
        x.advance(1);
        battery("30 of 30", x, 98, 70, 30);
        FlushPlanner y = off("battery 500 500 50 50 1000;");
        y.advance(10);
        charge(y, 10);
        y.advance(9);
        battery("950 of 1000", y, 500, 50, 950);
        y.advance(1);
        battery("1000 of 1000", y, 499, 0, 1000);
    }

    /** "whenever the discharge ... passes a multiple of wear". */
    private static void dischargePassesMultiple() {
        FlushPlanner x = off("battery 100 100 50 7 15;");
        x.advance(2);
        battery("14 of 15", x, 100, 86, 14);
        x.advance(1);
        battery("21 of 15", x, 99, 79, 21);
        x.advance(1);
        battery("28 of 30", x, 99, 72, 28);
        x.advance(1);
        battery("35 of 30", x, 98, 65, 35);
        FlushPlanner y = off("battery 100 16 50 15 16;");
        y.advance(1);
        battery("15 of 16", y, 100, 1, 15);
        y.advance(1);
        battery("the last 1 reaches it", y, 99, 0, 16);
    }

    /** "the capacity decreases by 1 for each such multiple". */
    private static void severalMultiplesAtOnce() {
        FlushPlanner x = off("battery 100 100 50 29 10;");
        x.advance(1);
        battery("10 and 20", x, 98, 71, 29);
        x.advance(1);
        battery("30, 40 and 50", x, 95, 42, 58);
        FlushPlanner y = Checks.planner("battery 500 500 50 1 3; device 200 50 50; device 150 49 1;");
        Checks.fill(y, 0, 0, 1, 1, 0, 1);
        y.setPower(false);
        Checks.due("flush", y.flush(), 2);
        battery("166 multiples", y, 334, 0, 500);
        FlushPlanner z = Checks.planner("battery 500 500 50 1 3; device 200 50 50;");
        Checks.fill(z, 0, 0, 1);
        z.setPower(false);
        Checks.due("flushDevice", z.flushDevice(0), 1);
        battery("100 multiples", z, 400, 200, 300);
    }

    /** A multiple counts when it is reached, not as long as the discharge stays there; 0 is never reached. */
    private static void noMultipleWithoutDischarge() {
        FlushPlanner x = off("battery 100 10 1 5 10;");
        Checks.due("nothing to flush", x.flush(), 0);
        battery("0 is not reached", x, 100, 10, 0);
        x.advance(2);
        battery("10 of 10", x, 99, 0, 10);
        x.advance(100);
        Checks.due("nothing to flush", x.flush(), 0);
        battery("still 10", x, 99, 0, 10);
        charge(x, 3);
        battery("charging does not count", x, 99, 3, 10);
    }

    /** "but not below 1". */
    private static void capacityNotBelowOne() {
        FlushPlanner x = off("battery 3 3 1 1 1;");
        x.advance(1);
        battery("2 left", x, 2, 2, 1);
        x.advance(1);
        battery("1 left", x, 1, 1, 2);
        x.advance(1);
        battery("still 1", x, 1, 0, 3);
        charge(x, 5);
        battery("charged to 1", x, 1, 1, 3);
        x.advance(1);
        battery("still 1", x, 1, 0, 4);
        FlushPlanner y = off("battery 500 500 50 50 1;");
        y.advance(10);
        battery("500 multiples", y, 1, 0, 500);
        FlushPlanner z = off("battery 1 1 50 50 1;");
        z.advance(1);
        battery("1 from the beginning", z, 1, 0, 1);
    }

    /** "if the charge is greater than the capacity then, it becomes the capacity": both sink together, at wear 1. */
    private static void chargeNeverAboveTheCapacity() {
        FlushPlanner x = off("battery 60 60 7 13 1;");
        int[][] want = {{47, 47, 13}, {34, 34, 26}, {21, 21, 39}, {8, 8, 52}, {1, 0, 60}};
        for (int[] row : want) {
            x.advance(1);
            battery("full", x, row[0], row[1], row[2]);
        }
        charge(x, 1);
        battery("charged to the worn capacity", x, 1, 1, 60);
        FlushPlanner y = off("battery 60 60 50 13 2;");
        y.advance(1);
        battery("6 multiples", y, 54, 47, 13);
        charge(y, 1);
        battery("charged to 54", y, 54, 54, 13);
        y.advance(1);
        battery("7 multiples", y, 47, 41, 26);
    }

    /** "If the charge is 0 at the end of a minute with the power off, all dirty blocks are lost." */
    private static void lostAtTheEndOfTheMinute() {
        FlushPlanner x = Checks.planner("battery 100 10 5 5 100; device 1 1 1;");
        Checks.fill(x, 0, 1, 30);
        x.setPower(false);
        Checks.due("5 left", x.advance(1), 0);
        Checks.due("still dirty", x.report(4), 1);
        Checks.due("0 left", x.advance(1), 30);
        Checks.due("not dirty", x.report(4), 0);
        FlushPlanner y = Checks.planner("battery 100 9 5 5 100; device 1 1 1;");
        Checks.fill(y, 0, 1, 30);
        y.setPower(false);
        Checks.due("4 left", y.advance(1), 0);
        Checks.due("cut to 0", y.advance(1), 30);
        FlushPlanner z = Checks.planner("battery 100 6 5 1 100; device 1 1 3; device 1 1 1;");
        z.setMode(1, 99);
        Checks.fill(z, 0, 1, 30, 1, 1, 7);
        z.setPower(false);
        Checks.due("flushed to 1", z.flush(), 30);
        Checks.due("charge", z.report(1), 1);
        Checks.due("dirty before the end of the minute", z.report(4), 1);
        Checks.due("lost at its end", z.advance(1), 7);
    }

    private static void notLostWithThePowerOn() {
        FlushPlanner x = Checks.planner("battery 100 5 0 1 100; mode value 99; device 1 1 3; device 1 1 1;");
        Checks.fill(x, 0, 1, 30, 1, 1, 7);
        x.setPower(false);
        Checks.due("flushed to 0", x.flush(), 30);
        Checks.due("charge", x.report(1), 0);
        x.setPower(true);
        Checks.due("no minute with the power off", x.advance(1000), 0);
        Checks.due("charge", x.report(1), 0);
        Checks.due("still dirty", x.report(4), 1);
        Checks.due("written without charge", x.write(1, 3, 9), true);
        x.setPower(false);
        Checks.due("no minute has passed", x.report(4), 2);
        Checks.due("one minute", x.advance(1), 16);
        Checks.due("lost", x.total(3), 2);
    }

    /** "... all dirty blocks": those of failed devices, too. */
    private static void lostOfAllDevices() {
        FlushPlanner x = Checks.planner("battery 100 50 0 50 100; device 1 1 1; device 1 1 1;");
        Checks.fill(x, 0, 0, 1, 0, 99, 2, 1, 0, 3, 1, 99, 4);
        x.setFailed(0, true);
        x.setFailed(1, true);
        x.setPower(false);
        Checks.due("lost", x.advance(1000), 10);
        Checks.due("blocks", x.total(3), 4);
        Checks.due("value", x.total(5), 10);
        Checks.due("flushed", x.total(2), 0);
        Checks.due("cleaned", x.total(6), 0);
        Checks.due("the devices stay failed", x.device(0, 3) + x.device(1, 3), 2);
        Checks.due("nothing more to lose", x.advance(1), 0);
        Checks.due("blocks", x.total(3), 4);
    }
}
