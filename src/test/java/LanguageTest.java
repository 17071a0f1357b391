import java.io.IOException;
import java.nio.file.Files;
import java.nio.file.Path;
import java.util.HashSet;
import java.util.Set;
import java.util.regex.Matcher;
import java.util.regex.Pattern;

/** The rules of LANGUAGE.md that can be read off the source's words. It runs in the project's root. */
public final class LanguageTest {
    private static final Path SOURCE = Path.of("src/main/java/ReplayFlow.java");

    private static final String[] FORBIDDEN = {
        "package", "import", "float", "double", "String", "Math", "Integer", "Long", "System", "Arrays", "Object",
        "null", "throw", "throws", "try", "catch", "finally", "synchronized", "assert", "instanceof", "enum",
        "interface", "record", "protected", "toString", "equals", "hashCode", "getClass", "clone", "var"};

    public static void main(String[] args) throws IOException {
        String code = withoutComments(Files.readString(SOURCE));
        forbiddenWords(code);
        arrays(code);
        methods(code);
        Check.finish();
    }

    private static String withoutComments(String text) {
        return text.replaceAll("(?s)/\\*.*?\\*/", "").replaceAll("//[^\n]*", "");
    }

    private static void forbiddenWords(String code) {
        for (String word : FORBIDDEN) {
            Check.holds("rules 2, 3, 6: no " + word, !Pattern.compile("\\b" + word + "\\b").matcher(code).find());
        }
        Check.holds("rule 6: no lambda, no method reference", !code.contains("->") && !code.contains("::"));
        Check.holds("rule 2: no text", !code.contains("\""));
        Check.holds("rule 1: one class", code.split("\\bclass\\b").length == 2);
        Check.holds("rule 2: one-dimensional arrays", !code.contains("[][]"));
    }

    private static void arrays(String code) {
        for (String line : code.split("\n")) {
            if (line.contains("new ")) {
                Check.holds("rule 4: an array is made in a field's initialiser: " + line,
                        line.matches("    private final \\w+\\[\\] \\w+ = new \\w+\\[[A-Z_]+\\];"));
            }
            if (line.matches(".*\\bstatic\\b.*[=;].*")) {
                Check.holds("rule 5: a constant: " + line,
                        line.matches("    (public|private) static final (int|long) \\w+ = -?\\d+;"));
            }
        }
    }

    private static void methods(String code) {
        Matcher method = Pattern.compile("(?m)^    (public|private) (?:static )?\\w+ (\\w+)\\(([^)]*)\\) \\{$").matcher(code);
        Set<String> names = new HashSet<>();
        int count = 0;
        while (method.find()) {
            count++;
            Check.holds("rule 1: one method of the name " + method.group(2), names.add(method.group(2)));
            Check.holds("rule 10: seven parameters", method.group(3).split(",").length <= 7);
            int end = code.indexOf("\n    }\n", method.end());
            String body = code.substring(method.end(), end);
            Check.holds("rule 10: " + method.group(2) + " is short", body.split("\n").length <= 60);
        }
        Check.holds("the methods are found", count > 13);
        // Words ahead of a bracket that are no calls are taken away first.
        String calls = code.replaceAll("\\b(if|for|while|switch|return)\\b", "").replaceAll("(?m)^    (public|private) .*\\{$", "");
        Check.holds("rule 10: no call inside the arguments of a call",
                !Pattern.compile("\\b\\w+\\([^();]*\\b\\w+\\(").matcher(calls).find());
    }
}
