import java.io.IOException;
import java.nio.file.Files;
import java.nio.file.Path;
import java.util.List;

/** The rules of LANGUAGE.md, as far as they can be read off the source. It runs in the project's root. */
public final class LanguageTest {
    private static final Path SOURCE = Path.of("src/main/java/ReplayFlow.java");

    /** What breaks a rule if it stands in the class, behind the rule's number. */
    private static final String[][] BREACHES = {
        {"1", "int seen;"},
        {"1", "protected static final int SEEN = 1;"},
        {"1", "int look() { return 1; }"},
        {"1", "private int emit(int op) { return op; }"},
        {"1", "private static class Inner { }"},
        {"1", "private enum Kind { ONE }"},
        {"1", "private record Pair(int one, int other) { }"},
        {"2", "private void look(double one) { }"},
        {"2", "private void look() { long one = (long) 1.5f; }"},
        {"2", "private String name;"},
        {"2", "private void look() { var one = 1; }"},
        {"2", "private void look(int[][] all) { }"},
        {"2", "private void look() { look(\"one\"); }"},
        {"3", "private int look(int one) { return Math.abs(one); }"},
        {"3", "private long look() { return System.nanoTime(); }"},
        {"3", "private long look() { return hashCode(); }"},
        {"3", "@Deprecated private void look() { }"},
        {"4", "private void look() { int[] all = new int[3]; }"},
        {"4", "private final int[] all = new int[0];"},
        {"4", "private final int[] all = {1, 2};"},
        {"4", "private final int[] all = new int[1 + now];"},
        {"4", "private int[] all = new int[3]; private int[] look() { return all; }"},
        {"4", "private int[] all = new int[3]; private void look() { all = ops; }"},
        {"4", "private boolean look() { return ops == targets; }"},
        {"4", "private boolean look() { return ops == null; }"},
        {"4", "private void look() { new ReplayFlow(); }"},
        {"5", "private static int count = 1;"},
        {"5", "private static final int[] ALL = new int[3];"},
        {"5", "private static final boolean YES = true;"},
        {"5", "static { }"},
        {"6", "private void look() { throw look(); }"},
        {"6", "private void look() { try { } finally { } }"},
        {"6", "private synchronized void look() { }"},
        {"6", "private void look() { synchronized (this) { } }"},
        {"6", "private void look() { assert now > 0; }"},
        {"6", "private boolean look() { return ops instanceof Object; }"},
        {"6", "private void look() { look(() -> 1); }"},
        {"6", "private void look() { look(this::look); }"},
        {"6", "private void look() { look((Object) ops); }"},
        {"8", "private void look() { look(); }"},
        {"8", "private void look() { see(); } private void see() { look(); }"},
        {"8", "private void look() { while (now > 0) { now--; } }"},
        {"8", "private void look() { do { now--; } while (now > 0); }"},
        {"8", "private void look() { for (int i = 0; i < now; i++) { } }"},
        {"8", "private void look() { for (int i = 0; now > 0; i++) { } }"},
        {"8", "private void look() { for (int i = 0; i < 9 || now > 0; i++) { } }"},
        {"8", "private void look() { for (int i = 0; i < 9; i++) { i = 0; } }"},
        {"8", "private void look() { for (int i = 0; i < 9; i++) { i--; } }"},
        {"8", "private void look() { for (int i = 0; i < 9;) { i++; } }"},
        {"8", "private void look() { for (;;) { } }"},
        {"10", "private void look(int a, int b, int c, int d, int e, int f, int g, int h) { }"},
        {"10", "private int look(int one) { return look(1 + look(2)); }"},
        {"10", "private void look() {" + "\n".repeat(60) + "}"},
        {"10", "private int " + "a, ".repeat(40) + "a;"},
        {"10", "private void a() { b(); } private void b() { c(); } private void c() { d(); }"
                + " private void d() { e(); } private void e() { f(); } private void f() { g(); } private void g() { }"},
    };

    public static void main(String[] args) throws IOException {
        String source = Files.readString(SOURCE);
        for (String breach : LanguageRules.breachesIn(source)) {
            Check.holds(breach, false);
        }
        breachesAreFound(source);
        allowedIsAllowed(source);
        Check.finish();
    }

    private static void breachesAreFound(String source) throws IOException {
        for (String[] breach : BREACHES) {
            dueBreach(breach[0], breach[1], with(source, breach[1]));
        }
        dueBreach("1", "package flow;", "package flow;\n" + source);
        dueBreach("1", "a class beside it", source + "class Other { }");
        dueBreach("1", "a class that is not final", source.replace("public final class", "public class"));
        dueBreach("3", "import", "import java.util.Arrays;\n" + source);
    }

    private static void dueBreach(String rule, String what, String source) throws IOException {
        List<String> found = LanguageRules.breachesIn(source);
        boolean told = found.stream().anyMatch(breach -> breach.startsWith("rule " + rule + ":"));
        Check.holds("\"" + what + "\" is told as a breach of rule " + rule + ", but told is " + found, told);
    }

    private static void allowedIsAllowed(String source) throws IOException {
        String[] allowed = {
            "private final short[] all = new short[1]; private int look(short[] given) { return given.length + all[0]; }",
            "private int look(long one) { int other = (int) one; return see(other); } private int see(int one) { return this.now; }",
            "private static final long MANY = -5L; private char letter = 'a';",
            "private void see(int a, int b, int c, int d, int e, int f, int g) { for (int i = 1; now > 0 && i <= 9; i++) { now--; } }",
        };
        for (String text : allowed) {
            Check.holds("\"" + text + "\" is allowed", LanguageRules.breachesIn(with(source, text)).isEmpty());
        }
    }

    /** The class with the text as its last member. */
    private static String with(String source, String text) {
        return source.substring(0, source.lastIndexOf('}')) + text + "\n}\n";
    }
}
