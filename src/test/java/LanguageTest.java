import java.io.IOException;
import java.nio.file.Files;
import java.nio.file.Path;
import java.util.Set;

/** The class keeps to LANGUAGE.md, and LanguageRules finds a member that does not. */
public final class LanguageTest {
    private static final Path MAIN = Path.of("src/main/java/StreamAssembler.java");

    /** Members that break a rule, each with the rule's number. */
    private static final String[][] BREAKS = {
        {"1", "private static final class Inner { }"},
        {"1", "private int read() { return 0; }"},
        {"1", "private enum Kind { }"},
        {"2", "private double d;"},
        {"2", "private Object o;"},
        {"2", "private int m() { return (int) 1.5; }"},
        {"2", "private int[][] table;"},
        {"2", "private String m() { return \"\"; }"},
        {"3", "private int m() { return Math.abs(1); }"},
        {"3", "private int m() { return hashCode(); }"},
        {"3", "private int m() { return Integer.MAX_VALUE; }"},
        {"3", "@Deprecated private int m() { return 0; }"},
        {"4", "private int m() { int[] a = new int[2]; return a[0]; }"},
        {"4", "private int[] m() { return values; }"},
        {"4", "private boolean m() { return values == readPoints; }"},
        {"4", "private boolean m() { return values == null; }"},
        {"4", "private final int[] none = new int[0];"},
        {"4", "private final int[] some = {1, 2};"},
        {"4", "private final int[] some = STREAMS > 2 ? new int[2] : new int[3];"},
        {"4", "private int[] some = new int[2]; private void m() { some = values; }"},
        {"4", "private void m() { int[] a = values; for (int k = 0; k < 2; k++) { a = readPoints; } }"},
        {"5", "private static int count;"},
        {"5", "private static final boolean YES = true;"},
        {"5", "private static final int[] TABLE = new int[2];"},
        {"5", "static { }"},
        {"6", "private int m() { try { return 1; } finally { } }"},
        {"6", "private void m() { throw new RuntimeException(); }"},
        {"6", "private void m() { assert values[0] == 0; }"},
        {"6", "private void m() { synchronized (this) { } }"},
        {"6", "private boolean m() { return this instanceof StreamAssembler; }"},
        {"6", "private void m() { Runnable r = () -> { }; }"},
        {"6", "private void m() { Runnable r = this::m; }"},
        {"6", "private int m() { return ((int[]) values)[0]; }"},
        {"7", "private int m(int d) { return 7 / d; }"},
        {"7", "private int m(int d) { int a = 7; a %= d; return a; }"},
        {"8", "private int m() { return m(); }"},
        {"8", "private int m() { return n(); } private int n() { return m(); }"},
        {"8", "private void m() { while (values[0] == 0) { } }"},
        {"8", "private void m() { do { } while (values[0] == 0); }"},
        {"8", "private void m() { for (int k = 0; k < 2; k++) { k--; } }"},
        {"8", "private void m() { for (;;) { } }"},
        {"10", "private int m(int a, int b, int c, int d, int e, int f, int g, int h) { return 0; }"},
        {"10", "private int m() { return limit(limit(0)); }"},
        {"10", "private int m() { return limit(1 + values[limit(0)]); }"},
        {"10", "private void m() { " + "\n".repeat(60) + " }"},
        {"10", "private int a() { return b(); } private int b() { return c(); } private int c() { return d(); }"
            + "private int d() { return e(); } private int e() { return flowBound(0); }"},
    };

    public static void main(String[] args) throws IOException {
        String source = Files.readString(MAIN);
        Due.sentence("LANGUAGE.md");
        Set<String> faults = LanguageRules.faults(source);
        Due.due("how many rules are broken " + faults, faults.size(), 0);
        Due.sentence("LANGUAGE.md (what LanguageRules finds)");
        for (String[] one : BREAKS) {
            found(one[0], source.substring(0, source.lastIndexOf('}')) + one[1] + "\n}\n", one[1]);
        }
        found("1", "package some;\n" + source, "a package line");
        found("1", source + "final class Other { }\n", "another class");
        found("1", source.replace("public final class", "public class"), "a class that is not final");
        found("3", "import java.util.List;\n" + source, "an import");
        found("3", source.replace("StreamAssembler {", "StreamAssembler implements java.io.Serializable {"), "an interface");
        found("6", source.replace("public int gaps", "public synchronized int gaps"), "a synchronized method");
        Due.end();
    }

    private static void found(String rule, String source, String what) throws IOException {
        boolean found = false;
        Set<String> faults = LanguageRules.faults(source);
        for (String fault : faults) {
            found = found || fault.startsWith(rule + ": ");
        }
        Due.due("rule " + rule + " broken by " + what + " in " + faults, found ? 1 : 0, 1);
    }
}
