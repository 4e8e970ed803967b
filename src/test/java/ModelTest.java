import java.nio.charset.StandardCharsets;
import java.util.Arrays;
import java.util.Random;

/** Long runs of calls, with right and wrong arguments, on the class and on the plain model. */
public final class ModelTest {
    private static final int RUNS = 400;
    private static final int CALLS = 512;
    private static final int METHODS = 36;
    private static final int[] WILD = {Integer.MIN_VALUE, Integer.MIN_VALUE + 1, -501, -2, -1, 5, 24, 25, 31, 32, 33, 99, 100,
        101, 400, 500, 501, 1000, 1001, 2376, 2377, 1 << 24, 1 << 30, Integer.MAX_VALUE - 1, Integer.MAX_VALUE};
    private static final String[] SCRAPS = {"battery", "device", "mode", "value", "off", "strict", "slots", "reserve", ";",
        "0", "1", "24", "25", "50", "99", "100", "500", "12345", "?", "\n", "\u00e4", "A", ""};

    private final Random random;
    private final FlushPlanner planner = new FlushPlanner();
    private final PlainModel model = new PlainModel();
    private final StringBuilder story = new StringBuilder();

    private ModelTest(int seed) {
        random = new Random(seed);
    }

    public static void main(String[] args) {
        for (int seed = 0; seed < RUNS; seed++) {
            new ModelTest(seed).run();
        }
        Checks.finish("ModelTest");
    }

    private void run() {
        loadText(setup());
        for (int k = 0; k < CALLS; k++) {
            int method = random.nextInt(10) < 4 ? 11 : random.nextInt(METHODS);
            if (method <= 2 && random.nextInt(8) > 0) {
                method = random.nextInt(3) == 0 ? 17 : 11;
            }
            if (method == 2 && random.nextBoolean()) {
                loadText(random.nextInt(3) == 0 ? setup() : spoilt(setup()));
            } else {
                both(method, arguments(method));
            }
        }
    }

    private String setup() {
        int capacity = random.nextInt(5) == 0 ? 1 + random.nextInt(50) : 50 + random.nextInt(451);
        StringBuilder text = new StringBuilder("battery " + capacity + " " + (capacity - random.nextInt(1 + capacity / 3)) + " "
                + random.nextInt(51) + " " + (1 + random.nextInt(random.nextBoolean() ? 50 : 4)) + " "
                + (1 + random.nextInt(random.nextBoolean() ? 1000 : 20)) + ";");
        // The model looks at every set, so that there must not be many slots.
        text.append("slots ").append(1 + random.nextInt(9)).append(";");
        if (random.nextBoolean()) {
            text.append("reserve ").append(random.nextInt(random.nextBoolean() ? 201 : 20)).append(" ;");
        }
        if (random.nextInt(4) > 0) {
            text.append(new String[] {"mode strict;", "mode off;", "mode value 50;", "mode value 99;\n"}[random.nextInt(4)]);
        }
        int devices = random.nextInt(10) == 0 ? 0 : 1 + random.nextInt(5);
        for (int d = 0; d < devices; d++) {
            text.append(" device ").append(random.nextInt(random.nextBoolean() ? 201 : 20)).append(" ")
                    .append(random.nextInt(random.nextBoolean() ? 51 : 5)).append(" ")
                    .append(1 + random.nextInt(random.nextBoolean() ? 50 : 5)).append(";");
        }
        return text.toString();
    }

    private String spoilt(String text) {
        int at = random.nextInt(text.length() + 1);
        int end = Math.min(text.length(), at + random.nextInt(4));
        return text.substring(0, at) + SCRAPS[random.nextInt(SCRAPS.length)] + text.substring(end);
    }

    private void loadText(String text) {
        both(1, 0);
        byte[] bytes = text.getBytes(StandardCharsets.ISO_8859_1);
        for (int from = 0; from < bytes.length; from += 20) {
            byte[] part = Arrays.copyOf(Arrays.copyOfRange(bytes, from, Math.min(from + 20, bytes.length)), 20);
            both(0, Checks.four(part, 0), Checks.four(part, 4), Checks.four(part, 8), Checks.four(part, 12),
                    Checks.four(part, 16));
        }
        both(1, bytes.length);
        both(2);
        both(3);
        both(4);
    }

    private int some(int bound) {
        return random.nextInt(40) == 0 ? WILD[random.nextInt(WILD.length)] : random.nextInt(bound + 1);
    }

    private int someDevice() {
        return some(Math.max(0, planner.report(5) - 1));
    }

    private int someBlock() {
        return some(Math.max(0, planner.report(4) - 1));
    }

    private int someSet() {
        return some((1 << planner.report(4)) - 1);
    }

    private int[] arguments(int method) {
        switch (method) {
            case 0: return new int[] {some(9), some(9), some(9), some(9), some(9)};
            case 1: return new int[] {some(400)};
            case 5: return new int[] {some(8)};
            case 6: return new int[] {someDevice(), some(6)};
            case 7: return new int[] {someBlock(), some(3)};
            case 8: return new int[] {someDevice(), some(12)};
            case 10: return new int[] {some(6)};
            case 11: case 12: return new int[] {someDevice(), some(random.nextInt(9) == 0 ? 99 : 12), 1 + some(98)};
            case 13: return new int[] {someDevice()};
            case 14: return new int[] {someDevice(), random.nextInt(3) / 2};
            case 15: return random.nextBoolean() ? new int[] {random.nextInt(2) * 2, 0} : new int[] {some(2), some(99)};
            case 16: return new int[] {random.nextInt(3) / 2 ^ 1};
            case 17: return new int[] {random.nextInt(30) == 0 ? some(1000) : some(5)};
            case 19: case 32: return new int[] {someDevice()};
            case 21: case 22: return new int[] {someSet()};
            case 23: case 24: case 25: case 26: return new int[] {some(random.nextBoolean() ? 500 : 100)};
            case 27: return new int[] {some(random.nextInt(5) == 0 ? 2376 : 400)};
            case 28: return new int[] {someBlock()};
            case 30: return new int[] {some(random.nextInt(5) == 0 ? 1000 : 30)};
            case 34: case 35: return new int[] {some(1)};
            default: return new int[0];
        }
    }

    private void both(int method, int... a) {
        String call = method + Arrays.toString(a);
        story.append(call).append(' ');
        Object got = answer(() -> onPlanner(method, a));
        Object want = answer(() -> onModel(method, a));
        if (!got.equals(want)) {
            System.out.println("after " + story);
        }
        Checks.due("call " + call, got, want);
    }

    private static Object answer(Checks.Call call) {
        try {
            return call.run();
        } catch (RuntimeException e) {
            return e.getClass().getSimpleName();
        }
    }

    private Object onPlanner(int method, int[] a) {
        FlushPlanner x = planner;
        switch (method) {
            case 0: return x.append(a[0], a[1], a[2], a[3], a[4]);
            case 1: return x.truncate(a[0]);
            case 2: return x.load();
            case 3: return x.errorCode();
            case 4: return x.errorPosition();
            case 5: return x.report(a[0]);
            case 6: return x.device(a[0], a[1]);
            case 7: return x.block(a[0], a[1]);
            case 8: return x.find(a[0], a[1]);
            case 9: return x.oldest();
            case 10: return x.total(a[0]);
            case 11: return x.write(a[0], a[1], a[2]);
            case 12: return x.wouldCache(a[0], a[1], a[2]);
            case 13: return x.clean(a[0]);
            case 14: return x.setFailed(a[0], a[1] == 1);
            case 15: return x.setMode(a[0], a[1]);
            case 16: return x.setPower(a[0] == 1);
            case 17: return x.advance(a[0]);
            case 18: return x.flush();
            case 19: return x.flushDevice(a[0]);
            case 20: return x.need();
            case 21: return x.energyOf(a[0]);
            case 22: return x.valueOf(a[0]);
            case 23: return x.bestSet(a[0]);
            case 24: return x.bestValue(a[0]);
            case 25: return x.greedySet(a[0]);
            case 26: return x.quality(a[0]);
            case 27: return x.energyFor(a[0]);
            case 28: return x.extra(a[0]);
            case 29: return x.minutesLeft();
            case 30: return x.valueAfter(a[0]);
            case 31: return x.minutesToSafety();
            case 32: return x.gainOfRepair(a[0]);
            case 33: return x.costliest();
            case 34: x.save(a[0]); return 0;
            default: x.restore(a[0]); return 0;
        }
    }

    private Object onModel(int method, int[] a) {
        PlainModel x = model;
        switch (method) {
            case 0: return x.append(a);
            case 1: return x.truncate(a[0]);
            case 2: return x.load();
            case 3: return x.errorCode();
            case 4: return x.errorPosition();
            case 5: return x.report(a[0]);
            case 6: return x.device(a[0], a[1]);
            case 7: return x.block(a[0], a[1]);
            case 8: return x.find(a[0], a[1]);
            case 9: return x.oldest();
            case 10: return x.total(a[0]);
            case 11: return x.write(a[0], a[1], a[2]);
            case 12: return x.wouldCache(a[0], a[1], a[2]);
            case 13: return x.clean(a[0]);
            case 14: return x.setFailed(a[0], a[1] == 1);
            case 15: return x.setMode(a[0], a[1]);
            case 16: return x.setPower(a[0] == 1);
            case 17: return x.advance(a[0]);
            case 18: return x.flush();
            case 19: return x.flushDevice(a[0]);
            case 20: return x.need();
            case 21: return x.energyOf(a[0]);
            case 22: return x.valueOf(a[0]);
            case 23: return x.bestSet(a[0]);
            case 24: return x.bestValue(a[0]);
            case 25: return x.greedySet(a[0]);
            case 26: return x.quality(a[0]);
            case 27: return x.energyFor(a[0]);
            case 28: return x.extra(a[0]);
            case 29: return x.minutesLeft();
            case 30: return x.valueAfter(a[0]);
            case 31: return x.minutesToSafety();
            case 32: return x.gainOfRepair(a[0]);
            case 33: return x.costliest();
            case 34: return x.save(a[0]);
            default: return x.restore(a[0]);
        }
    }
}
