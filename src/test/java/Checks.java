import java.nio.charset.StandardCharsets;
import java.util.ArrayList;
import java.util.Arrays;
import java.util.List;

/** What the tests share: comparing answers, loading a setup, and the exit code. */
final class Checks {
    static final String NOTHING = "nothing";
    static final String ARGUMENT = "IllegalArgumentException";
    static final String STATE = "IllegalStateException";
    static final String INDEX = "IndexOutOfBoundsException";
    static final String ELEMENT = "NoSuchElementException";

    private static int wrong = 0;
    private static int count = 0;

    interface Call {
        Object run();
    }

    private Checks() {
    }

    static void due(String name, Object got, Object want) {
        count++;
        if (!got.equals(want)) {
            wrong++;
            System.out.println(name + " answered " + got + ", due is " + want);
        }
    }

    static void dueThrow(String name, String want, Call call) {
        String thrown = NOTHING;
        try {
            call.run();
        } catch (RuntimeException e) {
            thrown = e.getClass().getSimpleName();
        }
        due(name + " throws", thrown, want);
    }

    /** Appends a text of any length: the last 20 bytes are filled up and truncated. */
    static void append(FlushPlanner planner, String text) {
        appendBytes(planner, text.getBytes(StandardCharsets.ISO_8859_1));
    }

    static void appendBytes(FlushPlanner planner, byte[] bytes) {
        for (int from = 0; from < bytes.length; from += 20) {
            byte[] part = Arrays.copyOf(Arrays.copyOfRange(bytes, from, Math.min(from + 20, bytes.length)), 20);
            int length = planner.append(four(part, 0), four(part, 4), four(part, 8), four(part, 12), four(part, 16));
            if (from + 20 > bytes.length) {
                planner.truncate(length - (from + 20 - bytes.length));
            }
        }
    }

    static int four(byte[] bytes, int at) {
        return (bytes[at] & 255) << 24 | (bytes[at + 1] & 255) << 16 | (bytes[at + 2] & 255) << 8 | bytes[at + 3] & 255;
    }

    static FlushPlanner planner(String text) {
        FlushPlanner planner = new FlushPlanner();
        append(planner, text);
        planner.load();
        return planner;
    }

    /** Writes blocks given as device, address, value, and so on; each must be cached. */
    static void fill(FlushPlanner planner, int... blocks) {
        for (int k = 0; k + 2 < blocks.length; k += 3) {
            due("filling", planner.write(blocks[k], blocks[k + 1], blocks[k + 2]), true);
        }
    }

    static void accepted(String text) {
        loaded(text, NOTHING, 0, FlushPlanner.NONE);
    }

    static void refused(String text, int code, int position) {
        loaded(text, ARGUMENT, code, position);
    }

    private static void loaded(String text, String thrown, int code, int position) {
        FlushPlanner x = new FlushPlanner();
        append(x, text);
        dueThrow("load of " + text, thrown, x::load);
        due("errorCode of " + text, x.errorCode(), code);
        due("errorPosition of " + text, x.errorPosition(), position);
    }

    /** Everything that a caller can see without changing it, but for the text buffer and the saved states. */
    static List<Object> picture(FlushPlanner x) {
        List<Object> all = new ArrayList<>(List.of(x.errorCode(), x.errorPosition()));
        for (int k = 0; k < 9; k++) {
            all.add(x.report(k));
        }
        for (int k = 0; k < 7; k++) {
            all.add(x.total(k));
        }
        for (int d = 0; d < x.report(5); d++) {
            for (int k = 0; k < 7; k++) {
                all.add(x.device(d, k));
            }
        }
        for (int b = 0; b < x.report(4); b++) {
            for (int k = 0; k < 4; k++) {
                all.add(x.block(b, k));
            }
        }
        all.add(x.minutesToSafety());
        all.add(x.minutesLeft());
        return all;
    }

    static void finish(String test) {
        System.out.println(test + ": " + count + " checks, " + wrong + " wrong");
        if (wrong != 0) {
            System.exit(1);
        }
    }
}
