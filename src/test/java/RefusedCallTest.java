import java.util.ArrayList;
import java.util.List;

/** EXCEPTIONS of the description: which one is thrown if several apply, and that a refused call changes nothing. */
public final class RefusedCallTest {
    private static final int MIN = Integer.MIN_VALUE;
    private static final int MAX = Integer.MAX_VALUE;
    private static final String NEXT_TEXT = "battery 7 6 5 4 3;device 1 2 3;";

    private RefusedCallTest() {
    }

    public static void main(String[] args) {
        throughoutARun();
        withoutDevices();
        withoutPossibleBlocks();
        fullBuffer();
        refusedText();
        Checks.finish("RefusedCallTest");
    }

    private static void refused(FlushPlanner x, String name, String want, Checks.Call call) {
        List<Object> before = Checks.picture(x);
        Checks.dueThrow(name, want, call);
        Checks.due(name + " changes nothing", Checks.picture(x), before);
    }

    /** Device 0 has blocks, 1 has failed with a block, 2 has none. */
    private static FlushPlanner example() {
        FlushPlanner x = Checks.planner("battery 100 90 5 2 7; reserve 3; slots 5; mode value 20;"
                + "device 20 5 3; device 10 4 2; device 1 1 1;");
        Checks.fill(x, 0, 5, 30, 1, 0, 10);
        x.advance(2);
        Checks.fill(x, 0, 6, 5);
        Checks.append(x, "battery 501");
        Checks.dueThrow("load", Checks.ARGUMENT, x::load);
        x.save(0);
        x.setFailed(1, true);
        x.clean(2);
        Checks.append(x, NEXT_TEXT);
        return x;
    }

    private static void throughoutARun() {
        FlushPlanner x = example();
        allRefusals(x);
        refused(x, "flush with the power on", Checks.STATE, x::flush);
        refused(x, "flushDevice with the power on", Checks.STATE, () -> x.flushDevice(0));
        refused(x, "flushDevice of none with the power on", Checks.STATE, () -> x.flushDevice(2));
        refused(x, "flushDevice of a failed one with the power on", Checks.STATE, () -> x.flushDevice(1));
        x.setPower(false);
        allRefusals(x);
        refused(x, "clean with the power off", Checks.STATE, () -> x.clean(0));
        refused(x, "clean of none with the power off", Checks.STATE, () -> x.clean(2));
        writeRefused(x, 0, 5, 30, Checks.STATE);
        x.advance(35);
        Checks.due("charge", x.report(1), 30);
        Checks.due("need", x.need(), 31);
        allRefusals(x);
        refused(x, "flushDevice with 30 of 31", Checks.STATE, () -> x.flushDevice(0));
        Checks.due("the buffer stays", x.truncate(NEXT_TEXT.length()), NEXT_TEXT.length());
        refused(x, "restore(1)", Checks.ELEMENT, () -> restored(x, 1));
        x.restore(0);
        Checks.due("what was saved stays", x.report(2), 2);
        Checks.due("what was saved stays", x.device(1, 3), 0);
        Checks.due("the text stays", x.load(), 1);
        Checks.due("capacity", x.report(0), 7);
        Checks.due("seek energy", x.device(0, 1), 2);
    }

    private static void allRefusals(FlushPlanner x) {
        truncateRefused(x);
        reportsRefused(x);
        writesRefused(x);
        operationsRefused(x);
        plansRefused(x);
        slotsRefused(x);
    }

    private static void truncateRefused(FlushPlanner x) {
        for (int length : new int[] {MIN, -1, NEXT_TEXT.length() + 1, 400, 401, MAX}) {
            refused(x, "truncate(" + length + ")", Checks.INDEX, () -> x.truncate(length));
        }
    }

    private static void reportsRefused(FlushPlanner x) {
        for (int what : new int[] {MIN, -1, 9, MAX}) {
            refused(x, "report(" + what + ")", Checks.ARGUMENT, () -> x.report(what));
        }
        for (int what : new int[] {MIN, -1, 7, MAX}) {
            refused(x, "total(" + what + ")", Checks.ARGUMENT, () -> x.total(what));
            refused(x, "device(0, " + what + ")", Checks.ARGUMENT, () -> x.device(0, what));
        }
        for (int what : new int[] {MIN, -1, 4, MAX}) {
            refused(x, "block(0, " + what + ")", Checks.ARGUMENT, () -> x.block(0, what));
        }
        for (int none : new int[] {MIN, -1, 3, MAX}) {
            for (int what : new int[] {MIN, -1, 0, 3, 7, MAX}) {
                refused(x, "device(" + none + ", " + what + ")", Checks.INDEX, () -> x.device(none, what));
                refused(x, "block(" + none + ", " + what + ")", Checks.INDEX, () -> x.block(none, what));
            }
            refused(x, "find(" + none + ", 5)", Checks.INDEX, () -> x.find(none, 5));
            refused(x, "find(" + none + ", 100)", Checks.INDEX, () -> x.find(none, 100));
        }
        for (int address : new int[] {MIN, -1, 100, MAX}) {
            refused(x, "find(0, " + address + ")", Checks.INDEX, () -> x.find(0, address));
        }
        for (int address : new int[] {0, 4, 7, 99}) {
            refused(x, "find(0, " + address + ")", Checks.ELEMENT, () -> x.find(0, address));
        }
    }

    private static void writeRefused(FlushPlanner x, int device, int address, int value, String want) {
        String call = "(" + device + ", " + address + ", " + value + ")";
        refused(x, "write" + call, want, () -> x.write(device, address, value));
        refused(x, "wouldCache" + call, want, () -> x.wouldCache(device, address, value));
    }

    /** "If several exceptions apply to a call, the one that is named first in its throws clause is thrown." */
    private static void writesRefused(FlushPlanner x) {
        writeRefused(x, 1, 0, 30, Checks.STATE);
        writeRefused(x, 1, 99, 1, Checks.STATE);
        for (int value : new int[] {MIN, -1, 0, 100, MAX}) {
            writeRefused(x, 0, 5, value, Checks.ARGUMENT);
            writeRefused(x, 1, 5, value, Checks.ARGUMENT);
            writeRefused(x, 3, 5, value, Checks.INDEX);
            writeRefused(x, 1, -1, value, Checks.INDEX);
        }
        for (int none : new int[] {MIN, -1, 3, 5, MAX}) {
            writeRefused(x, none, 5, 30, Checks.INDEX);
            writeRefused(x, none, 100, 30, Checks.INDEX);
        }
        for (int address : new int[] {MIN, -1, 100, MAX}) {
            writeRefused(x, 0, address, 30, Checks.INDEX);
            writeRefused(x, 1, address, 30, Checks.INDEX);
            writeRefused(x, 1, address, 0, Checks.INDEX);
        }
    }

    private static void operationsRefused(FlushPlanner x) {
        for (int none : new int[] {MIN, -1, 3, 5, MAX}) {
            refused(x, "clean(" + none + ")", Checks.INDEX, () -> x.clean(none));
            refused(x, "setFailed(" + none + ", true)", Checks.INDEX, () -> x.setFailed(none, true));
            refused(x, "setFailed(" + none + ", false)", Checks.INDEX, () -> x.setFailed(none, false));
            refused(x, "flushDevice(" + none + ")", Checks.INDEX, () -> x.flushDevice(none));
            refused(x, "gainOfRepair(" + none + ")", Checks.INDEX, () -> x.gainOfRepair(none));
        }
        refused(x, "clean of a failed device", Checks.STATE, () -> x.clean(1));
        refused(x, "flushDevice of a failed device", Checks.STATE, () -> x.flushDevice(1));
        int[][] modes = {{MIN, 0}, {-1, 0}, {3, 0}, {MAX, 0}, {0, MIN}, {0, -1}, {0, 1}, {0, MAX}, {2, MIN}, {2, -1}, {2, 1},
            {2, MAX}, {1, MIN}, {1, -1}, {1, 0}, {1, 100}, {1, MAX}, {3, 50}, {-1, 50}, {3, 100}, {-1, -1}};
        for (int[] mode : modes) {
            refused(x, "setMode(" + mode[0] + ", " + mode[1] + ")", Checks.ARGUMENT, () -> x.setMode(mode[0], mode[1]));
        }
        for (int minutes : new int[] {MIN, -1, 0, 1001, MAX}) {
            refused(x, "advance(" + minutes + ")", Checks.ARGUMENT, () -> x.advance(minutes));
        }
        for (int minutes : new int[] {MIN, -1, 1001, MAX}) {
            refused(x, "valueAfter(" + minutes + ")", Checks.ARGUMENT, () -> x.valueAfter(minutes));
        }
    }

    private static void plansRefused(FlushPlanner x) {
        for (int set : new int[] {MIN, MIN + 7, -1, 8, 15, 1 << 24, MAX}) {
            refused(x, "energyOf(" + set + ")", Checks.ARGUMENT, () -> x.energyOf(set));
            refused(x, "valueOf(" + set + ")", Checks.ARGUMENT, () -> x.valueOf(set));
        }
        energiesRefused(x);
        refused(x, "quality(0)", Checks.ELEMENT, () -> x.quality(0));
        refused(x, "quality(27)", Checks.ELEMENT, () -> x.quality(27));
        for (int value : new int[] {MIN, -1, 2377, MAX}) {
            refused(x, "energyFor(" + value + ")", Checks.ARGUMENT, () -> x.energyFor(value));
        }
        for (int value : new int[] {36, 46, 2376}) {
            refused(x, "energyFor(" + value + ")", Checks.ELEMENT, () -> x.energyFor(value));
        }
        for (int none : new int[] {MIN, -1, 3, 24, 31, 32, 34, MAX}) {
            refused(x, "extra(" + none + ")", Checks.INDEX, () -> x.extra(none));
        }
        refused(x, "extra(2)", Checks.STATE, () -> x.extra(2));
    }

    private static void energiesRefused(FlushPlanner x) {
        for (int energy : new int[] {MIN, -1, 501, MAX}) {
            refused(x, "bestSet(" + energy + ")", Checks.ARGUMENT, () -> x.bestSet(energy));
            refused(x, "bestValue(" + energy + ")", Checks.ARGUMENT, () -> x.bestValue(energy));
            refused(x, "greedySet(" + energy + ")", Checks.ARGUMENT, () -> x.greedySet(energy));
            refused(x, "quality(" + energy + ")", Checks.ARGUMENT, () -> x.quality(energy));
        }
    }

    private static void slotsRefused(FlushPlanner x) {
        for (int slot : new int[] {MIN, -1, 2, MAX}) {
            refused(x, "save(" + slot + ")", Checks.INDEX, () -> saved(x, slot));
            refused(x, "restore(" + slot + ")", Checks.INDEX, () -> restored(x, slot));
        }
    }

    private static Object saved(FlushPlanner x, int slot) {
        x.save(slot);
        return slot;
    }

    private static Object restored(FlushPlanner x, int slot) {
        x.restore(slot);
        return slot;
    }

    private static void withoutDevices() {
        FlushPlanner x = new FlushPlanner();
        for (int none : new int[] {MIN, -1, 0, 1, MAX}) {
            refused(x, "device(" + none + ", 0)", Checks.INDEX, () -> x.device(none, 0));
            refused(x, "block(" + none + ", 0)", Checks.INDEX, () -> x.block(none, 0));
            refused(x, "find(" + none + ", 0)", Checks.INDEX, () -> x.find(none, 0));
            writeRefused(x, none, 0, 1, Checks.INDEX);
            refused(x, "clean(" + none + ")", Checks.INDEX, () -> x.clean(none));
            refused(x, "setFailed(" + none + ")", Checks.INDEX, () -> x.setFailed(none, true));
            refused(x, "flushDevice(" + none + ")", Checks.INDEX, () -> x.flushDevice(none));
            refused(x, "extra(" + none + ")", Checks.INDEX, () -> x.extra(none));
            refused(x, "gainOfRepair(" + none + ")", Checks.INDEX, () -> x.gainOfRepair(none));
        }
        withoutSets(x);
    }

    private static void withoutPossibleBlocks() {
        FlushPlanner x = Checks.planner("battery 100 90 5 2 7; device 20 5 3;");
        refused(x, "oldest()", Checks.ELEMENT, x::oldest);
        withoutSets(x);
        Checks.fill(x, 0, 5, 30);
        x.setFailed(0, true);
        withoutSets(x);
        refused(x, "extra(0)", Checks.STATE, () -> x.extra(0));
        refused(x, "extra(1)", Checks.INDEX, () -> x.extra(1));
        Checks.due("the oldest may be on a failed device", x.oldest(), 0);
    }

    private static void withoutSets(FlushPlanner x) {
        refused(x, "quality(0)", Checks.ELEMENT, () -> x.quality(0));
        refused(x, "quality(500)", Checks.ELEMENT, () -> x.quality(500));
        energiesRefused(x);
        refused(x, "energyFor(1)", Checks.ELEMENT, () -> x.energyFor(1));
        refused(x, "energyFor(2376)", Checks.ELEMENT, () -> x.energyFor(2376));
        refused(x, "energyFor(2377)", Checks.ARGUMENT, () -> x.energyFor(2377));
        refused(x, "energyFor(-1)", Checks.ARGUMENT, () -> x.energyFor(-1));
        refused(x, "costliest()", Checks.ELEMENT, x::costliest);
        refused(x, "flush()", Checks.STATE, x::flush);
        refused(x, "restore(0)", Checks.ELEMENT, () -> restored(x, 0));
        refused(x, "restore(1)", Checks.ELEMENT, () -> restored(x, 1));
        slotsRefused(x);
    }

    /** An append that is refused adds none of its bytes. */
    private static void fullBuffer() {
        for (int length = 381; length <= 400; length++) {
            FlushPlanner x = new FlushPlanner();
            Checks.append(x, " ".repeat(length - NEXT_TEXT.length()) + NEXT_TEXT);
            int first = length;
            refused(x, "append to " + length, Checks.STATE, () -> x.append(0, 0, 0, 0, 0));
            refused(x, "append to " + length, Checks.STATE, () -> x.append(MIN, -1, first, 0, MAX));
            Checks.due("the length stays", x.truncate(length), length);
            Checks.dueThrow("it is no longer", Checks.INDEX, () -> x.truncate(first + 1));
            Checks.due("the text stays", x.load(), 1);
        }
        FlushPlanner y = new FlushPlanner();
        Checks.append(y, " ".repeat(380 - NEXT_TEXT.length()) + NEXT_TEXT);
        Checks.due("append to 380", y.append(0x20202020, 0x20202020, 0x20202020, 0x20202020, 0x2020200a), 400);
        Checks.due("the text is longer", y.load(), 1);
    }

    /** "everything else stays then, but the error code and position are set"; the buffer is empty in every case. */
    private static void refusedText() {
        FlushPlanner x = example();
        x.setPower(false);
        x.save(1);
        List<Object> before = withoutError(x);
        String[] texts = {"", "battery 100 100 10 1 100", NEXT_TEXT + "?", "battery 0", "battery 7 6 5 4 3;slots 1;slots 1;"};
        int[][] errors = {{1, 0}, {1, 24}, {1, 31}, {2, 8}, {3, 26}};
        for (int k = 0; k < texts.length; k++) {
            x.truncate(0);
            Checks.append(x, texts[k]);
            Checks.dueThrow("load of " + texts[k], Checks.ARGUMENT, x::load);
            Checks.due("code", x.errorCode(), errors[k][0]);
            Checks.due("position", x.errorPosition(), errors[k][1]);
            Checks.due("everything else stays", withoutError(x), before);
            Checks.dueThrow("the buffer is empty", Checks.INDEX, () -> x.truncate(1));
        }
        x.setPower(true);
        x.restore(1);
        Checks.due("what was saved in slot 1 stays", withoutError(x), before);
        x.restore(0);
        Checks.due("what was saved in slot 0 stays", x.device(1, 3), 0);
        Checks.due("the error is not restored", x.errorCode(), 3);
    }

    private static List<Object> withoutError(FlushPlanner x) {
        List<Object> all = Checks.picture(x);
        return new ArrayList<>(all.subList(2, all.size()));
    }
}
