import java.util.List;

/** Promises 36 and 37: save and restore. */
public final class SavedStateTest {
    private SavedStateTest() {
    }

    public static void main(String[] args) {
        everythingComesBack();
        slotsAreApart();
        whatIsNotSaved();
        loadRemoves();
        exceptions();
        Checks.finish("SavedStateTest");
    }

    private static FlushPlanner example() {
        FlushPlanner x = Checks.planner("battery 100 80 5 2 7; reserve 3; slots 5; mode value 20; device 20 5 3; device 10 4 2;");
        Checks.fill(x, 0, 5, 30, 1, 0, 10);
        x.advance(2);
        return x;
    }

    private static void change(FlushPlanner x) {
        x.setMode(0, 0);
        x.write(1, 2, 25);
        x.write(0, 5, 31);
        x.clean(0);
        x.write(0, 9, 31);
        x.setPower(false);
        x.setFailed(1, true);
        x.flush();
        x.advance(100);
    }

    private static void everythingComesBack() {
        FlushPlanner x = example();
        List<Object> before = Checks.picture(x);
        x.save(0);
        Checks.due("save changes nothing", Checks.picture(x), before);
        change(x);
        Checks.due("something is changed", Checks.picture(x).equals(before), false);
        x.restore(0);
        Checks.due("all is back", Checks.picture(x), before);
        change(x);
        x.restore(0);
        Checks.due("all is back again", Checks.picture(x), before);
        x.advance(1);
        Checks.due("the age goes on", x.block(0, 3), 3);
    }

    private static void slotsAreApart() {
        FlushPlanner x = example();
        List<Object> first = Checks.picture(x);
        x.save(1);
        change(x);
        List<Object> second = Checks.picture(x);
        x.save(0);
        x.restore(1);
        Checks.due("slot 1", Checks.picture(x), first);
        x.restore(0);
        Checks.due("slot 0", Checks.picture(x), second);
        x.save(1);
        x.setPower(true);
        x.restore(1);
        Checks.due("in place of what was saved", Checks.picture(x), second);
    }

    private static void whatIsNotSaved() {
        FlushPlanner x = example();
        x.save(0);
        Checks.append(x, "battery?");
        Checks.dueThrow("load", Checks.ARGUMENT, x::load);
        x.append(0, 0, 0, 0, 0);
        x.restore(0);
        Checks.due("the error stays", x.errorCode(), 1);
        Checks.due("its position stays", x.errorPosition(), 7);
        Checks.due("the buffer stays", x.truncate(20), 20);
    }

    private static void loadRemoves() {
        FlushPlanner x = example();
        x.save(0);
        x.save(1);
        Checks.append(x, "battery 1 1 1 1 1;");
        x.load();
        for (int slot = 0; slot < 2; slot++) {
            restoreThrows(x, slot, Checks.ELEMENT);
        }
    }

    private static void exceptions() {
        FlushPlanner x = new FlushPlanner();
        restoreThrows(x, 0, Checks.ELEMENT);
        restoreThrows(x, 1, Checks.ELEMENT);
        x.save(1);
        restoreThrows(x, 0, Checks.ELEMENT);
        restoreThrows(x, 1, Checks.NOTHING);
        for (int wild : new int[] {Integer.MIN_VALUE, -1, 2, Integer.MAX_VALUE}) {
            restoreThrows(x, wild, Checks.INDEX);
            Checks.dueThrow("save(" + wild + ")", Checks.INDEX, () -> {
                x.save(wild);
                return wild;
            });
        }
    }

    private static void restoreThrows(FlushPlanner x, int slot, String want) {
        Checks.dueThrow("restore(" + slot + ")", want, () -> {
            x.restore(slot);
            return slot;
        });
    }
}
