import java.lang.reflect.Method;
import java.lang.reflect.Modifier;
import java.nio.file.Files;
import java.nio.file.Path;
import java.util.regex.Matcher;
import java.util.regex.Pattern;

/** README.md says what each call is for, and its example answers as it says. */
public final class ReadmeTests extends Check {
    private static final Path EXAMPLE = Path.of("build/example");
    private static final Pattern BLOCK = Pattern.compile("(?s)```java\n(.*?)```");
    private static final Pattern CALL =
            Pattern.compile("(?m)^(g\\.\\w+\\(.*\\));\\s+// (-?\\w+)(: .*)?$");

    private static String readme;

    public static void main(String[] args) throws Exception {
        readme = Files.readString(Path.of("README.md"));
        test("README: what each call is for", ReadmeTests::everyCallHasARow);
        test("README: what BAD, FULL and NONE mean", ReadmeTests::everyConstantHasARow);
        test("README: how symbols are written", () -> says("5 + c", "a + 8 * b + 64 * c"));
        test("README: for how many calls an object is used", () -> says("at most 512 calls"));
        test("README: how to run its tests", () -> says(".ci/run", "../shared/tests"));
        String[][] rows = exampleRows();
        test("README: the example answers as it says", () -> answersAreAsSaid(rows));
        test("README: the example has every call", () -> exampleHasEveryCall(rows));
        end();
    }

    private static void says(String... words) {
        for (String word : words) {
            if (!readme.contains(word)) {
                fault("'" + word + "' is not there");
            }
        }
    }

    private static void everyCallHasARow() {
        for (Method m : GrammarSuite.class.getDeclaredMethods()) {
            if (Modifier.isPublic(m.getModifiers())) {
                String parameters = "\\w+, ".repeat(m.getParameterCount()).replaceAll(", $", "");
                String row = "(?m)^\\| `" + m.getName() + "\\(" + parameters + "\\)` \\| \\w.* \\|";
                if (!Pattern.compile(row).matcher(readme).find()) {
                    fault("there is no row for " + m.getName());
                }
            }
        }
    }

    private static void everyConstantHasARow() {
        says("| `BAD` | " + BAD + " | ", "| `FULL` | " + FULL + " | ", "| `NONE` | " + NONE + " | ");
    }

    /** For each call of the example its text, what it answers, and what the file says it answers. */
    private static String[][] exampleRows() throws Exception {
        Matcher block = BLOCK.matcher(readme);
        StringBuilder rows = new StringBuilder();
        if (block.find()) {
            Matcher call = CALL.matcher(block.group(1));
            while (call.find()) {
                String text = call.group(1);
                String said = call.group(2).replaceAll("^[A-Z]+$", "GrammarSuite.$0");
                rows.append("{\"" + text + "\", \"\" + " + text + ", \"\" + " + said + "},\n");
            }
        }
        String example = "public final class Example {\n"
                + "public static String[][] rows() {\n"
                + "GrammarSuite g = new GrammarSuite();\n"
                + "return new String[][] {\n" + rows + "};\n}\n}\n";
        Class<?> compiled = Compiled.from(example, "Example", EXAMPLE,
                ReadmeTests.class.getClassLoader());
        return (String[][]) compiled.getMethod("rows").invoke(null);
    }

    private static void answersAreAsSaid(String[][] rows) {
        for (String[] row : rows) {
            if (!row[1].equals(row[2])) {
                fault(row[0] + " answers " + row[1] + ", not " + row[2]);
            }
        }
    }

    private static void exampleHasEveryCall(String[][] rows) {
        for (Method m : GrammarSuite.class.getDeclaredMethods()) {
            boolean there = !Modifier.isPublic(m.getModifiers());
            for (String[] row : rows) {
                there = there || row[0].startsWith("g." + m.getName() + "(");
            }
            if (!there) {
                fault(m.getName() + " is not there");
            }
        }
        // A call whose answer the test could not read would be left out unseen.
        long calls = readme.lines().filter(line -> line.startsWith("g.")).count();
        if (rows.length != calls) {
            fault("of " + calls + " calls " + rows.length + " say what they answer");
        }
    }
}
