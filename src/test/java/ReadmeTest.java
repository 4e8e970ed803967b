import java.io.IOException;
import java.lang.reflect.InvocationTargetException;
import java.lang.reflect.Method;
import java.nio.file.Files;
import java.nio.file.Path;
import java.util.ArrayList;
import java.util.List;
import java.util.regex.Matcher;
import java.util.regex.Pattern;

/** Makes the calls that README.md tells, so that it stays true; .ci/run starts it in the folder of the project. */
public final class ReadmeTest {
    private static final Path README = Path.of("README.md");
    private static final Path THIS = Path.of("src/test/java/ReadmeTest.java");
    private static final Pattern BLOCK = Pattern.compile("(?s)```(\\w*)\\n(.*?)\\n```");
    private static final Pattern CALL = Pattern.compile("planner\\.(\\w+)\\((.*)\\);(?: +// (\\w+))?");

    private ReadmeTest() {
    }

    public static void main(String[] args) throws IOException {
        String readme = Files.readString(README);
        List<String> texts = blocks(readme, "text");
        List<String> codes = blocks(readme, "java");
        Checks.due("setups in README.md", texts.size(), 1);
        Checks.due("pieces of Java in README.md", codes.size(), 2);
        Checks.due("appendText is the one of README.md", plain(Files.readString(THIS)).contains(plain(codes.get(0))), true);
        FlushPlanner planner = new FlushPlanner();
        appendText(planner, texts.get(0));
        int calls = 0;
        for (String line : codes.get(1).split("\n")) {
            checkCall(planner, line);
            calls++;
        }
        Checks.due("README.md makes calls", calls > 20, true);
        checkTestTable(readme);
        Checks.finish("ReadmeTest");
    }

    private static List<String> blocks(String readme, String language) {
        List<String> found = new ArrayList<>();
        Matcher matcher = BLOCK.matcher(readme);
        while (matcher.find()) {
            if (matcher.group(1).equals(language)) {
                found.add(matcher.group(2));
            }
        }
        return found;
    }

    private static String plain(String code) {
        return code.replaceAll("(?m)^ +", "").replace("private static", "static");
    }

    private static void checkCall(FlushPlanner planner, String line) {
        Matcher matcher = CALL.matcher(line);
        Checks.due(line + " is a call", matcher.matches(), true);
        String want = matcher.group(3) == null ? "null" : matcher.group(3);
        Checks.due(line, answer(planner, matcher.group(1), matcher.group(2)), want);
    }

    private static String answer(FlushPlanner planner, String name, String given) {
        String[] words = given.isEmpty() ? new String[0] : given.split(", ");
        for (Method method : FlushPlanner.class.getMethods()) {
            if (method.getName().equals(name) && method.getParameterCount() == words.length) {
                return answer(planner, method, words);
            }
        }
        return "no such method";
    }

    private static String answer(FlushPlanner planner, Method method, String[] words) {
        Object[] values = new Object[words.length];
        for (int k = 0; k < words.length; k++) {
            boolean isFlag = method.getParameterTypes()[k] == boolean.class;
            values[k] = isFlag ? (Object) Boolean.valueOf(words[k]) : (Object) Integer.valueOf(words[k]);
        }
        try {
            return String.valueOf(method.invoke(planner, values));
        } catch (InvocationTargetException e) {
            return e.getCause().getClass().getSimpleName();
        } catch (IllegalAccessException e) {
            return "not public";
        }
    }

    /** The table of tests in README.md has each test that .ci/run finds. */
    private static void checkTestTable(String readme) throws IOException {
        try (var files = Files.list(Path.of("src/test/java"))) {
            files.map(file -> file.getFileName().toString()).filter(name -> name.endsWith("Test.java")).forEach(name -> {
                String test = name.substring(0, name.length() - ".java".length());
                Checks.due("README.md tells of " + test, readme.contains("| " + test + " | "), true);
            });
        }
    }

    private static void appendText(FlushPlanner planner, String text) {
        for (int from = 0; from < text.length(); from += 20) {
            int[] parts = new int[5];
            for (int k = 0; k < 20; k++) {
                char sign = from + k < text.length() ? text.charAt(from + k) : ' ';
                parts[k / 4] = parts[k / 4] << 8 | sign;
            }
            planner.append(parts[0], parts[1], parts[2], parts[3], parts[4]);
        }
    }
}
