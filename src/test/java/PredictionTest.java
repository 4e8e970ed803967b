/** Promises 31 to 35: minutes, values to come, repairs and the costliest device. */
public final class PredictionTest {
    private PredictionTest() {
    }

    public static void main(String[] args) {
        minutesLeft();
        minutesLeftComesTrue();
        valueAfter();
        minutesToSafety();
        gainOfRepair();
        costliest();
        Checks.finish("PredictionTest");
    }

    private static void minutesLeft() {
        Checks.due("no need", new FlushPlanner().minutesLeft(), FlushPlanner.NONE);
        FlushPlanner x = Checks.planner("battery 100 60 5 2 50; mode value 99; device 20 5 3; device 10 4 2;");
        Checks.fill(x, 0, 5, 30, 0, 6, 10, 1, 0, 40, 1, 2, 25);
        Checks.due("need 53 of 60", x.minutesLeft(), 3);
        x.setPower(false);
        Checks.due("with the power off too", x.minutesLeft(), 3);
        x.advance(3);
        Checks.due("need 53 of 54", x.minutesLeft(), 0);
        x.advance(1);
        Checks.due("need 53 of 52", x.minutesLeft(), FlushPlanner.NONE);
        x.setFailed(0, true);
        Checks.due("need 22 of 52", x.minutesLeft(), 15);
        x.setFailed(1, true);
        Checks.due("need 0", x.minutesLeft(), FlushPlanner.NONE);
        Checks.due("the charge stays", x.report(1), 52);
        Checks.due("the discharge stays", x.report(8), 8);
        Checks.due("the time stays", x.report(2), 4);
        FlushPlanner y = Checks.planner("battery 500 500 5 1 1; device 0 0 1;");
        Checks.fill(y, 0, 0, 1);
        Checks.due("to the last minute", y.minutesLeft(), 499);
        y.setPower(false);
        Checks.due("nothing is lost till then", y.advance(499), 0);
        Checks.due("the charge meets the need", y.report(1), y.need());
        Checks.due("the worn capacity", y.report(0), 1);
        Checks.due("no minute more", y.minutesLeft(), 0);
        Checks.due("then all is lost", y.advance(1), 1);
    }

    private static void minutesLeftComesTrue() {
        for (int drain = 1; drain <= 50; drain += 7) {
            for (int wear = 1; wear <= 30; wear += 9) {
                FlushPlanner x = Checks.planner("battery 300 290 50 " + drain + " " + wear + "; device 20 5 10;");
                Checks.fill(x, 0, 5, 30, 0, 6, 10, 0, 9, 40);
                int minutes = x.minutesLeft();
                x.setPower(false);
                if (minutes > 0) {
                    x.advance(minutes);
                }
                Checks.due("met, drain " + drain + ", wear " + wear, x.report(1) >= x.need(), true);
                int need = x.need();
                x.advance(1);
                Checks.due("no longer met, drain " + drain + ", wear " + wear, x.report(1) >= need, false);
            }
        }
    }

    private static void valueAfter() {
        FlushPlanner x = Checks.planner("battery 100 60 5 2 50; mode value 99; device 20 5 3; device 10 4 2;");
        Checks.fill(x, 0, 5, 30, 0, 6, 10, 1, 0, 40, 1, 2, 25);
        int[][] want = {{0, 105}, {3, 105}, {4, 95}, {5, 95}, {6, 80}, {7, 70}, {8, 70}, {9, 65}, {19, 65}, {20, 40},
            {22, 40}, {23, 0}, {30, 0}, {1000, 0}};
        for (int round = 0; round < 2; round++) {
            for (int[] row : want) {
                Checks.due("valueAfter(" + row[0] + ")", x.valueAfter(row[0]), row[1]);
            }
            x.setPower(false);
        }
        Checks.due("nothing changes", x.report(1), 60);
        Checks.due("nothing is lost", x.report(4), 4);
        for (int wild : new int[] {Integer.MIN_VALUE, -1, 1001, Integer.MAX_VALUE}) {
            Checks.dueThrow("valueAfter(" + wild + ")", Checks.ARGUMENT, () -> x.valueAfter(wild));
        }
        x.setFailed(1, true);
        Checks.due("without a device", x.valueAfter(0), 40);
    }

    private static void minutesToSafety() {
        Checks.due("safe", new FlushPlanner().minutesToSafety(), 0);
        FlushPlanner x = Checks.planner("battery 100 60 5 2 1000; reserve 10; mode value 99; device 20 5 3; device 10 4 2;");
        Checks.fill(x, 0, 5, 30, 0, 6, 10, 1, 0, 40, 1, 2, 25);
        Checks.due("63 from 60", x.minutesToSafety(), 1);
        x.setPower(false);
        x.advance(1);
        Checks.due("63 from 58", x.minutesToSafety(), 1);
        x.advance(1);
        Checks.due("63 from 56", x.minutesToSafety(), 2);
        x.setPower(true);
        x.advance(2);
        Checks.due("63 from 66", x.minutesToSafety(), 0);
        FlushPlanner y = Checks.planner("battery 50 10 30 1 1; reserve 40; mode value 99; device 0 0 10;");
        y.advance(2);
        Checks.fill(y, 0, 5, 30);
        y.setPower(false);
        y.advance(30);
        Checks.due("the worn capacity", y.report(0), 20);
        Checks.due("never", y.minutesToSafety(), FlushPlanner.NONE);
        FlushPlanner z = Checks.planner("battery 50 10 0 1 1; reserve 11;");
        Checks.due("no rate", z.minutesToSafety(), FlushPlanner.NONE);
        FlushPlanner w = Checks.planner("battery 50 10 39 1 1; reserve 50;");
        Checks.due("50 of 50", w.minutesToSafety(), 2);
        FlushPlanner v = Checks.planner("battery 50 10 40 1 1; reserve 51;");
        Checks.due("51 of 50", v.minutesToSafety(), FlushPlanner.NONE);
        FlushPlanner u = Checks.planner("battery 50 10 0 1 1; reserve 10;");
        Checks.due("safe without a rate", u.minutesToSafety(), 0);
    }

    private static void gainOfRepair() {
        FlushPlanner x = Checks.planner("battery 100 40 5 2 50; mode value 99; device 20 5 3; device 10 4 2; device 1 1 1;");
        Checks.fill(x, 0, 5, 30, 0, 6, 10, 1, 0, 40, 1, 2, 25, 2, 0, 1);
        Checks.due("not failed", x.gainOfRepair(1), 0);
        x.setFailed(1, true);
        Checks.due("41 with, 66 without", x.gainOfRepair(1), 25);
        Checks.due("another", x.gainOfRepair(0), 0);
        Checks.due("it stays failed", x.device(1, 3), 1);
        x.setFailed(0, true);
        Checks.due("of two, the one", x.gainOfRepair(0), 40);
        Checks.due("of two, the other", x.gainOfRepair(1), 65);
        x.setFailed(2, true);
        Checks.due("a device with little", x.gainOfRepair(2), 1);
        for (int wild : new int[] {Integer.MIN_VALUE, -1, 3, 5, Integer.MAX_VALUE}) {
            Checks.dueThrow("gainOfRepair(" + wild + ")", Checks.INDEX, () -> x.gainOfRepair(wild));
        }
    }

    private static void costliest() {
        Checks.dueThrow("costliest of none", Checks.ELEMENT, () -> new FlushPlanner().costliest());
        FlushPlanner x = Checks.planner("battery 500 500 5 2 50; device 1 1 1; device 2 0 2; device 0 0 2; device 3 3 3;");
        Checks.dueThrow("costliest without blocks", Checks.ELEMENT, x::costliest);
        Checks.fill(x, 2, 7, 3);
        Checks.due("the only one", x.costliest(), 2);
        Checks.fill(x, 1, 7, 6);
        Checks.due("4/6 = 2/3: the lowest", x.costliest(), 1);
        Checks.fill(x, 1, 7, 7);
        Checks.due("4/7 < 2/3", x.costliest(), 2);
        Checks.fill(x, 3, 7, 13);
        Checks.due("9/13 > 2/3", x.costliest(), 3);
        Checks.fill(x, 0, 7, 4);
        Checks.due("3/4", x.costliest(), 0);
        x.setFailed(0, true);
        Checks.due("without 0", x.costliest(), 3);
        x.setFailed(3, true);
        x.setFailed(2, true);
        Checks.due("without 2", x.costliest(), 1);
        x.setFailed(1, true);
        Checks.dueThrow("all failed", Checks.ELEMENT, x::costliest);
    }
}
