import java.io.IOException;
import java.lang.reflect.Method;
import java.lang.reflect.Modifier;
import java.net.URL;
import java.net.URLClassLoader;
import java.nio.file.Files;
import java.nio.file.Path;
import java.util.ArrayList;
import java.util.List;
import java.util.Set;
import java.util.TreeSet;
import java.util.regex.Matcher;
import java.util.regex.Pattern;
import javax.tools.ToolProvider;

/**
 * The calls that README.md shows, compiled as they stand there and made one after the other: each answers
 * what README.md tells behind it. It runs where .ci/run does.
 */
public final class ReadmeTest {
    private static final Pattern BLOCK = Pattern.compile("(?s)```java\n(.*?)```");
    private static final Pattern TOLD = Pattern.compile(
        "((\\w+)\\.(\\w+)\\([^;]*\\));\\s+// (-?\\d+|NONE|UNKNOWN|OUTSIDE|STATE|FULL)(:.*)?");
    private static final Pattern UNTOLD = Pattern.compile(
        "KindWords \\w+ = new KindWords\\(\\);|for \\(char c : \"[^\"]*\"\\.toCharArray\\(\\)\\) \\w+\\.letter\\(c\\);");
    private static final Pattern ROW = Pattern.compile("(?m)^\\| `(\\w+)\\(([\\w, ]*)\\)` \\|");
    private static final Pattern REFUSAL_ROW = Pattern.compile("(?m)^\\| `([A-Z]+)` \\| (-\\d+) \\|");

    private static final Due d = new Due();
    private static final Set<String> shown = new TreeSet<>();
    private static final Set<String> answers = new TreeSet<>();

    public static void main(String[] args) throws Exception {
        String readme = Files.readString(Path.of("README.md"));
        List<String> statements = statementsOf(readme);
        everyCallIsThere(readme);
        everyRefusalIsThere(readme);
        everyTestIsThere(readme);
        run(statements);
        d.end();
    }

    /** Called by the compiled calls, for each of them. */
    public static void told(String call, long got, long want) {
        d.that("README.md: " + call + " answers " + want + " there, but it is " + got, got == want);
    }

    private static List<String> statementsOf(String readme) {
        List<String> statements = new ArrayList<>();
        Matcher block = BLOCK.matcher(readme);
        while (block.find()) {
            for (String line : block.group(1).split("\n")) {
                statements.add(statementOf(line));
            }
        }
        return statements;
    }

    private static String statementOf(String line) {
        Matcher call = TOLD.matcher(line);
        if (!call.matches()) {
            d.that("README.md: no answer is told in: " + line, UNTOLD.matcher(line).matches());
            return line;
        }
        shown.add(call.group(3));
        String answer = call.group(4);
        answers.add(answer);
        String want = Character.isLetter(answer.charAt(0)) ? "KindWords." + answer : answer + "L";
        return "ReadmeTest.told(\"" + call.group(1) + "\", " + call.group(1) + ", " + want + ");";
    }

    private static void everyCallIsThere(String readme) {
        Set<String> rows = new TreeSet<>();
        Matcher row = ROW.matcher(readme);
        while (row.find()) {
            int parameters = row.group(2).isEmpty() ? 0 : row.group(2).split(",").length;
            rows.add(row.group(1) + " with " + parameters);
        }
        for (Method m : KindWords.class.getDeclaredMethods()) {
            if (Modifier.isPublic(m.getModifiers())) {
                String call = m.getName() + " with " + m.getParameterCount();
                d.that("README.md has no row for " + call, rows.remove(call));
                d.that("README.md shows no call of " + m.getName(), shown.contains(m.getName()));
            }
        }
        d.that("README.md has rows for no call: " + rows, rows.isEmpty());
    }

    private static void everyRefusalIsThere(String readme) {
        Set<String> rows = new TreeSet<>();
        Matcher row = REFUSAL_ROW.matcher(readme);
        while (row.find()) {
            rows.add(row.group(1) + row.group(2));
        }
        Set<String> due = Set.of("UNKNOWN-101", "OUTSIDE-102", "STATE-103", "FULL-104");
        d.that("README.md has the refusals " + rows, rows.equals(due));
        for (String answer : new String[] {"NONE", "UNKNOWN", "OUTSIDE", "STATE", "FULL"}) {
            d.that("README.md shows no call that answers " + answer, answers.contains(answer));
        }
    }

    private static void everyTestIsThere(String readme) throws IOException {
        try (var files = Files.list(Path.of("src/test/java"))) {
            files.map(f -> f.getFileName().toString()).filter(f -> f.endsWith("Test.java"))
                .map(f -> f.replace(".java", ""))
                .forEach(f -> d.that("README.md has no row for " + f, readme.contains("\n| `" + f + "` |")));
        }
    }

    private static void run(List<String> statements) throws Exception {
        Path into = Files.createTempDirectory("readme");
        Path source = into.resolve("ReadmeCalls.java");
        Path compiled = into.resolve("ReadmeCalls.class");
        try {
            Files.writeString(source, "public final class ReadmeCalls {\n  public static void run() {\n"
                + String.join("\n", statements) + "\n  }\n}\n");
            int failed = ToolProvider.getSystemJavaCompiler().run(null, null, null, "-d", into.toString(),
                "-cp", System.getProperty("java.class.path"), source.toString());
            d.that("the calls of README.md do not compile", failed == 0);
            if (failed == 0) {
                try (URLClassLoader loader = new URLClassLoader(new URL[] {into.toUri().toURL()})) {
                    loader.loadClass("ReadmeCalls").getMethod("run").invoke(null);
                }
            }
        } finally {
            Files.deleteIfExists(compiled);
            Files.deleteIfExists(source);
            Files.deleteIfExists(into);
        }
    }
}
