import java.nio.charset.StandardCharsets;
import java.util.Arrays;

/** What the tests share: comparing answers, loading a setup, and the exit code. */
final class Checks {
    static final String NOTHING = "nothing";
    static final String ARGUMENT = "IllegalArgumentException";
    static final String STATE = "IllegalStateException";
    static final String INDEX = "IndexOutOfBoundsException";
    static final String ELEMENT = "NoSuchElementException";

    private static int wrong = 0;
    private static int count = 0;

    interface Call {
        Object run();
    }

    private Checks() {
    }

    static void due(String name, Object got, Object want) {
        count++;
        if (!got.equals(want)) {
            wrong++;
            System.out.println(name + " answered " + got + ", due is " + want);
        }
    }

    static void dueThrow(String name, String want, Call call) {
        String thrown = NOTHING;
        try {
            call.run();
        } catch (RuntimeException e) {
            thrown = e.getClass().getSimpleName();
        }
        due(name + " throws", thrown, want);
    }

    /** Appends a text of any length: the last 20 bytes are filled up and truncated. */
    static void append(FlushPlanner planner, String text) {
        appendBytes(planner, text.getBytes(StandardCharsets.ISO_8859_1));
    }

    static void appendBytes(FlushPlanner planner, byte[] bytes) {
        for (int from = 0; from < bytes.length; from += 20) {
            byte[] part = Arrays.copyOf(Arrays.copyOfRange(bytes, from, Math.min(from + 20, bytes.length)), 20);
            int length = planner.append(four(part, 0), four(part, 4), four(part, 8), four(part, 12), four(part, 16));
            if (from + 20 > bytes.length) {
                planner.truncate(length - (from + 20 - bytes.length));
            }
        }
    }

    static int four(byte[] bytes, int at) {
        return (bytes[at] & 255) << 24 | (bytes[at + 1] & 255) << 16 | (bytes[at + 2] & 255) << 8 | bytes[at + 3] & 255;
    }

    static FlushPlanner planner(String text) {
        FlushPlanner planner = new FlushPlanner();
        append(planner, text);
        planner.load();
        return planner;
    }

    /** Writes blocks given as device, address, value, and so on; each must be cached. */
    static void fill(FlushPlanner planner, int... blocks) {
        for (int k = 0; k + 2 < blocks.length; k += 3) {
            due("filling", planner.write(blocks[k], blocks[k + 1], blocks[k + 2]), true);
        }
    }

    static void finish(String test) {
        System.out.println(test + ": " + count + " checks, " + wrong + " wrong");
        if (wrong != 0) {
            System.exit(1);
        }
    }
}
