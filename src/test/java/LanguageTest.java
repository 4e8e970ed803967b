import java.io.IOException;
import java.nio.file.Files;
import java.nio.file.Path;
import java.util.ArrayList;
import java.util.List;
import java.util.Set;
import java.util.TreeSet;
import java.util.regex.Matcher;
import java.util.regex.Pattern;

/** What LANGUAGE.md forbids and a look at the source can find; .ci/run starts it in the folder of the project. */
public final class LanguageTest {
    private static final Path SOURCE = Path.of("src/main/java/FlushPlanner.java");
    private static final Pattern METHOD = Pattern.compile("^( +)(?!.*\\bclass\\b)[\\w\\[\\] ]+\\((.*)\\)? ?.*[{,)]$");
    private static final Set<String> LIBRARY = Set.of("Arrays.fill", "Integer.bitCount", "Math.max", "Math.min", "System.arraycopy");
    private static final Set<String> EXCEPTIONS = Set.of("IllegalStateException", "IllegalArgumentException",
            "IndexOutOfBoundsException", "NoSuchElementException");
    private static final List<String> FORBIDDEN = List.of("->", "::", "\\bcatch\\b", "\\btry\\b", "\\bfinally\\b", "\\bsynchronized\\b",
            "\\bassert\\b", "\\binstanceof\\b", "\\bnull\\b", "\\bObject\\b", "\\bfloat\\b", "\\bNaN\\b", "\\w+Exact\\b", "^package\\b",
            "\\bstatic \\{", "\\bequals\\b", "\\bhashCode\\b", "\\btoString\\b", "\\bRandom\\b", "\\bThread\\b", "%");

    private LanguageTest() {
    }

    public static void main(String[] args) throws IOException {
        List<String> code = withoutComments(Files.readAllLines(SOURCE));
        String all = String.join("\n", code);
        Checks.due("imports", found(all, "import ([\\w.]+);"),
                new TreeSet<>(Set.of("java.util.Arrays", "java.util.NoSuchElementException")));
        for (String pattern : FORBIDDEN) {
            Checks.due("lines with " + pattern, found(all, "(?m)(" + pattern + ")").size(), 0);
        }
        for (String call : found(all, "\\b((?:Arrays|Integer|Long|Math|System|String|List)\\.\\w+)")) {
            Checks.due(call + " is in the library", LIBRARY.contains(call), true);
        }
        for (String thrown : found(all, "throw new (\\w+)\\(\"[^\"]*\"\\);")) {
            Checks.due(thrown + " may be thrown", EXCEPTIONS.contains(thrown), true);
        }
        Checks.due("throws of another form", count(all, "\\bthrow\\b"), count(all, "\\bthrow new \\w+\\(\"[^\"]*\"\\);"));
        Checks.due("at most twelve classes", found(all, "\\bclass (\\w+)").size() <= 12, true);
        Checks.due("static fields that are not final", count(all, "\\bstatic (?!final\\b)[\\w\\[\\]]+ \\w+( =|;)"), 0);
        checkMethods(code);
        Checks.finish("LanguageTest");
    }

    private static List<String> withoutComments(List<String> lines) {
        List<String> code = new ArrayList<>();
        for (String line : lines) {
            String start = line.strip();
            boolean isComment = start.startsWith("//") || start.startsWith("/*") || start.startsWith("*");
            code.add(isComment ? "" : line);
        }
        return code;
    }

    private static Set<String> found(String text, String pattern) {
        Set<String> all = new TreeSet<>();
        Matcher matcher = Pattern.compile(pattern).matcher(text);
        while (matcher.find()) {
            all.add(matcher.group(1));
        }
        return all;
    }

    private static int count(String text, String pattern) {
        return (int) Pattern.compile(pattern).matcher(text).results().count();
    }

    /** "A method takes at most seven parameters. Methods stay short (some sixty lines)". */
    private static void checkMethods(List<String> code) {
        int methods = 0;
        for (int k = 0; k < code.size(); k++) {
            Matcher matcher = METHOD.matcher(code.get(k));
            if (!matcher.matches() || matcher.group(1).length() > 8 || code.get(k).strip().matches("(if|for|while|switch|return)\\b.*")) {
                continue;
            }
            methods++;
            int end = k;
            while (end < code.size() && !code.get(end).equals(matcher.group(1) + "}")) {
                end++;
            }
            Checks.due(code.get(k).strip() + " is short", end - k <= 60, true);
            Checks.due(code.get(k).strip() + " takes few", matcher.group(2).split(",").length <= 7, true);
        }
        Checks.due("methods are found", methods > 80, true);
    }
}
