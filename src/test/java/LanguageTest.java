import java.io.IOException;
import java.nio.file.Files;
import java.nio.file.Path;
import java.util.regex.Matcher;
import java.util.regex.Pattern;

/** Those rules of LANGUAGE.md that can be read off the program's text; it runs where .ci/run does. */
public final class LanguageTest {
    private static final String[] RULED_OUT = {
        "\\b(throw|throws|try|catch|synchronized|assert)\\b", "\\b(import|package)\\b", "\\bprotected\\b",
        "->", "::", "Exact\\b", "\\bstatic\\s*\\{", "\\bvar\\b", "\\bvolatile\\b", "\\bnative\\b",
        "\\bjava\\s*\\.", "\\bSystem\\b(?!\\.arraycopy)", "\\b(Object|Thread|Runtime|Random|Class)\\b",
        "\\bwhile\\s*\\(\\s*true\\s*\\)", "\\bfor\\s*\\([^;)]*;\\s*;", "\\b(hashCode|toString)\\b"};
    private static final int LINES_OF_A_METHOD = 60;

    private static final Due d = new Due();

    public static void main(String[] args) throws IOException {
        String text = Files.readString(Path.of("src/main/java/KindWords.java"));
        d.that("a sign above 127 in the text", text.chars().allMatch(c -> c < 128));
        String code = withoutTexts(text);
        for (String pattern : RULED_OUT) {
            Matcher found = Pattern.compile(pattern).matcher(code);
            while (found.find()) {
                d.that("ruled out: " + found.group(), false);
            }
        }
        methodsAreShort(code);
        noCallMakesAnObject(code);
        d.end();
    }

    private static String withoutTexts(String text) {
        return text.replaceAll("(?s)/\\*.*?\\*/", "").replaceAll("//[^\n]*", "")
            .replaceAll("\"[^\"\n]*\"", "\"\"").replaceAll("'[^']'", "' '");
    }

    private static void methodsAreShort(String code) {
        int depth = 0;
        int since = 0;
        String[] lines = code.split("\n");
        for (int i = 0; i < lines.length; i++) {
            if (lines[i].matches("\\s+[\\w\\[\\] ]+\\([\\w\\[\\], ]*\\) \\{")) {
                since = i;
                depth = lines[i].indexOf(lines[i].trim());
            }
            if (since > 0 && lines[i].equals(" ".repeat(depth) + "}")) {
                d.that("a long method ends at line " + (i + 1), i - since <= LINES_OF_A_METHOD);
            }
        }
    }

    // The room for objects is one for all calls: objects are made in fields and constructors alone.
    private static void noCallMakesAnObject(String code) {
        for (String line : code.split("\n")) {
            if (line.contains("new ")) {
                d.that("made in a call: " + line.trim(), line.contains("final")
                    || line.matches("\\s+(victims\\[v\\] = new Victim|convicts\\[c\\] = new Convict)\\(\\);"));
            }
        }
    }
}
