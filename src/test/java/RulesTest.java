import java.io.IOException;
import java.nio.file.Files;
import java.nio.file.Path;
import java.util.Set;

/** The class keeps to LANGUAGE.md as far as Rules can see, and Rules sees what does not. */
public final class RulesTest {
    private static final Path SOURCE = Path.of("src/main/java/GlassPlanner.java");
    private static final String HEAD = "public final class GlassPlanner { ";

    public static void main(String[] args) throws IOException {
        String source = Files.readString(SOURCE);
        Set<String> broken = Rules.brokenIn(source);
        Run.due("rules", "in " + SOURCE + " what breaks one, " + broken + ",", broken.size(), 0);
        for (String line : source.split("\n")) {
            Run.due("style", "more than 100 characters: " + line, line.length() > 100 ? 1 : 0, 0);
        }
        plain();
        faceAndClasses();
        typesAndLibrary();
        statements();
        recursion();
        sizes();
        Run.end();
    }

    /** A rule that is broken in the members is seen, by its number. */
    private static void seen(int rule, String members) throws IOException {
        seenInFile(rule, HEAD + members + " }");
    }

    private static void seenInFile(int rule, String source) throws IOException {
        boolean found = false;
        for (String broken : Rules.brokenIn(source)) {
            found |= broken.startsWith("rule " + rule + ": ");
        }
        Run.due("rules", "whether rule " + rule + " is broken by " + source, found ? 1 : 0, 1);
    }

    private static void plain() throws IOException {
        String members = "private final Row row = new Row(); public GlassPlanner() { }"
                + " public int sum(int n) { return row.add(n, 0); }"
                + " private static final class Row { int[] of = new int[3];"
                + " int add(int n, int depth) { for (int i = 0; i < of.length; i++) { n += of[i]; }"
                + " return depth > 3 ? Math.max(n, 1) : add(n, depth + 1); } }";
        Set<String> broken = Rules.brokenIn(HEAD + members + " }");
        Run.due("rules", "in a plain class what breaks one, " + broken + ",", broken.size(), 0);
    }

    private static void faceAndClasses() throws IOException {
        seenInFile(1, "class GlassPlanner { }");
        seenInFile(1, "package some.place; public final class GlassPlanner { }");
        seenInFile(1, "public final class GlassPlanner { } class Other { }");
        seen(1, "int open() { return 1; }");
        seen(1, "protected int open = 1;");
        seen(1, "public int rows() { return 1; } private int rows(int n) { return n; }");
        seen(1, "public int rows() { return 1; } static final class A { int rows() { return 1; } }");
        seen(1, "public static final class A { }");
        seen(2, "final class A { }");
        seen(2, "private int f() { class A { int n = 1; } return 1; }");
        seen(2, "interface A { int f(); } private int f() { A a = () -> 1; return a.f(); }");
        seen(2, "interface A { int f(); } private static int g() { return 1; }"
                + " private int f() { A a = GlassPlanner::g; return a.f(); }");
    }

    private static void typesAndLibrary() throws IOException {
        seen(3, "private final int[][][] a = null;");
        seen(3, "private final Object a = null;");
        seenInFile(4, "import java.util.Random; public final class GlassPlanner { }");
        seen(4, "private long f() { return System.nanoTime(); }");
        seen(4, "private int f(int n) { return Math.addExact(n, 1); }");
        seen(4, "private double f(double n) { return Math.sqrt(n); }");
        seen(4, "private int f() { return new java.util.Random().nextInt(); }");
        seen(4, "private final Object a = new Object();");
        seen(4, "private final int a = \"text\" == null ? 1 : 2;");
        seen(4, "private int a = 1; /* " + (char) 233 + " */");
        seen(5, "private static int count = 0;");
        seen(5, "private static final int[] A; static { A = new int[1]; }");
    }

    private static void statements() throws IOException {
        seen(6, "private int f() { throw new RuntimeException(); }");
        seen(6, "private int f() { try { return 1; } finally { int a = 1; } }");
        seen(6, "private int f(int n) { assert n > 0; return n; }");
        seen(6, "private int f() { synchronized (this) { return 1; } }");
        seen(6, "private synchronized int f() { return 1; }");
        seen(6, "private int f() throws RuntimeException { return 1; }");
        seen(6, "public int hashCode() { return 1; }");
        seen(6, "interface A { } static final class B implements A { }"
                + " private int f(A a) { B b = (B) a; return 1; }");
        seen(9, "private int f() { for (int i = 0; ; i++) { if (i > 9) { return i; } } }");
        seen(9, "private int f() { for (int i = 0; i < 9;) { i += 2; } return 1; }");
        seen(9, "private int f(int n) { while (n > 0) { n--; } return n; }");
        seen(9, "private int f(int n) { do { n--; } while (n > 0); return n; }");
        seen(12, "private int f() { int[] a = new int[3]; return a.length; }");
        seen(12, "private int f() { A a = new A(); return a.n; } static final class A { int n; }");
    }

    private static void recursion() throws IOException {
        seen(8, "private int f(int n) { return n < 1 ? 0 : f(n - 1); }");
        seen(8, "private int f(int n) { return n < 1 ? 0 : g(n - 1); }"
                + " private int g(int n) { return f(n); }");
        seen(8, "private int f(int depth) { return depth < 1 ? 0 : g(depth - 1); }"
                + " private int g(int depth) { return h(depth); }"
                + " private int h(int depth) { return f(depth); }");
    }

    private static void sizes() throws IOException {
        seen(11, "private int f(int a, int b, int c, int d, int e, int f, int g, int h)"
                + " { return a; }");
        seen(11, "private int f(int n) {" + "\n n++;".repeat(60) + "\n return n; }");
        StringBuilder classes = new StringBuilder();
        StringBuilder fields = new StringBuilder();
        for (int i = 1; i <= 21; i++) {
            classes.append(" static final class A").append(i).append(" { }");
            fields.append(" private int a").append(i).append(" = 1;");
        }
        seen(11, classes.toString());
        seen(11, fields.toString());
        seen(11, chain(9));
        Run.due("rules", "with calls eight deep what breaks one", Rules.brokenIn(HEAD + chain(8)
                + " }").size(), 0);
    }

    /** So many methods, each of which calls the next one. */
    private static String chain(int methods) {
        StringBuilder chain = new StringBuilder("private int f1() { return 1; }");
        for (int i = 2; i <= methods; i++) {
            chain.append(" private int f").append(i).append("() { return f").append(i - 1)
                    .append("(); }");
        }
        return chain.toString();
    }
}
