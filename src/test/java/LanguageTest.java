import java.io.IOException;
import java.nio.file.Files;
import java.nio.file.Path;
import java.util.List;

/** The class keeps to ../shared/LANGUAGE.md, and the check that says so sees a breach of each rule. */
public final class LanguageTest {
    private static final Path MAIN = Path.of("src/main/java/BvhTracer.java");
    private static final String HEAD = "public final class BvhTracer {\n";

    public static void main(String[] args) throws IOException {
        List<String> faults = Language.faultsIn(Files.readString(MAIN));
        Due.holds(MAIN + " keeps to the rules: " + faults, faults.isEmpty());
        keeps("private static final int N = 3; private final int[] a = new int[N]; public BvhTracer() { a[0] = 1; }");
        keeps("public int f(int n) { for (int i = 0; i < n; i++) { if (g(i)) { return i; } } return -1; }"
                + " private static boolean g(int i) { return (i >> 2 & 1) == 0; }");
        oneClass();
        typesAndLibrary();
        arraysAndConstants();
        statements();
        loopsAndCalls();
        sizes();
        Due.finish();
    }

    private static void keeps(String members) throws IOException {
        List<String> faults = Language.faultsIn(HEAD + members + "\n}\n");
        Due.holds("this keeps to the rules: " + members + " " + faults, faults.isEmpty());
    }

    private static void breaks(int rule, String members) throws IOException {
        breaksAsWhole(rule, HEAD + members + "\n}\n");
    }

    private static void breaksAsWhole(int rule, String source) throws IOException {
        List<String> faults = Language.faultsIn(source);
        boolean seen = faults.stream().anyMatch(fault -> fault.startsWith("rule " + rule + ":"));
        Due.holds("a breach of rule " + rule + " is seen in " + source + " " + faults, seen);
    }

    private static void oneClass() throws IOException {
        breaksAsWhole(1, "final class BvhTracer { }");
        breaksAsWhole(1, "public class BvhTracer { }");
        breaksAsWhole(1, HEAD + "} final class Other { }");
        breaksAsWhole(1, "package some; " + HEAD + "}");
        breaks(1, "private static final class Inner { }");
        breaks(1, "private enum Inner { A }");
        breaks(1, "private record Inner(int a) { }");
        breaks(1, "int f() { return 0; }");
        breaks(1, "protected int f() { return 0; }");
        breaks(1, "int a;");
        breaks(1, "public int a;");
        breaks(1, "public int f() { return 0; } private int f(int a) { return a; }");
    }

    private static void typesAndLibrary() throws IOException {
        breaks(2, "private double a;");
        breaks(2, "private final float[] a = new float[3];");
        breaks(2, "private String a;");
        breaks(2, "private Integer a;");
        breaks(2, "private final int[][] a = new int[3][3];");
        breaks(2, "public int f() { return (int) 0.5; }");
        breaks(2, "public int f() { return (int) (float) 1; }");
        breaks(3, "public int f(int a) { return Math.abs(a); }");
        breaks(3, "private int a; public void f(int b) { a = Math.abs(b); }");
        breaks(3, "public int f() { return hashCode(); }");
        breaksAsWhole(3, "import java.util.List; " + HEAD + "}");
    }

    private static void arraysAndConstants() throws IOException {
        breaks(4, "public int f() { int[] a = new int[3]; return a[0]; }");
        breaks(4, "private final int[] a = new int[0];");
        breaks(4, "private final int[] a = {1, 2};");
        breaks(4, "private int n; private final int[] a = new int[n];");
        breaks(4, "private int[] a = new int[3];");
        breaks(4, "private final int[] a = new int[3]; private int[] f() { return a; }");
        breaks(4, "private final int[] a = new int[3]; private final int[] b = new int[3];"
                + " public boolean f() { return a == b; }");
        breaks(4, "private final int[] a = new int[3]; public boolean f() { return a == null; }");
        breaks(4, "private final int[] a = new int[3]; public void f() { int[] b = a; b[0] = 1; }");
        breaks(5, "private static int a = 1;");
        breaks(5, "private static final int[] A = new int[3];");
        breaks(5, "private static final boolean A = true;");
        breaks(5, "private static int a; static { a = 1; }");
    }

    private static void statements() throws IOException {
        breaks(6, "public int f() { throw new RuntimeException(); }");
        breaks(6, "public int f() { try { return 1; } finally { return 2; } }");
        breaks(6, "public synchronized int f() { return 1; }");
        breaks(6, "public int f() { synchronized (this) { return 1; } }");
        breaks(6, "public int f(int a) { assert a > 0; return a; }");
        breaks(6, "public boolean f(int a) { return (Object) a instanceof Integer; }");
        breaks(6, "private Runnable r = () -> { };");
        breaks(6, "private Runnable r = this::f; public void f() { }");
    }

    private static void loopsAndCalls() throws IOException {
        breaks(8, "public int f(int a) { return a < 1 ? 0 : f(a - 1); }");
        breaks(8, "public int f(int a) { return g(a); } private int g(int a) { return a < 1 ? 0 : f(a - 1); }");
        breaks(8, "public void f() { for (;;) { } }");
        breaks(8, "public void f(int a) { while (a > 0) { a = a / 2; } }");
        breaks(8, "public void f(int a) { do { a = a / 2; } while (a > 0); }");
        breaks(8, "public void f() { for (int i = 0; i < 9; i--) { } }");
        breaks(8, "public void f() { for (int i = 9; i > 0; i++) { } }");
        breaks(8, "public void f() { for (int i = 0; i != 9; i++) { } }");
        breaks(8, "public void f() { for (int i = 0; i < 9; i++) { i = 0; } }");
        breaks(8, "public void f() { for (int i = 0; i < 9; i++) { i -= 1; } }");
        breaks(8, "public void f() { for (int i = 0; i < 9; i++) { i--; } }");
        breaks(8, "private int n; public void f() { for (int i = 0; i < n; i++) { n++; } }");
    }

    private static void sizes() throws IOException {
        breaks(10, "public int f(int a, int b, int c, int d, int e, int g, int h, int i) { return 0; }");
        breaks(10, "public int f(int a) { return g(1 + g(a)); } private int g(int a) { return a; }");
        breaks(10, "public int f() { " + "\n".repeat(60) + " return 0; }");
        breaks(10, chain(7));
        keeps(chain(6));
        breaks(10, fields(41));
        keeps(fields(40));
    }

    /** Methods of which each calls the next. */
    private static String chain(int length) {
        StringBuilder members = new StringBuilder();
        for (int i = 1; i < length; i++) {
            members.append("private int f" + i + "() { return f" + (i + 1) + "(); }\n");
        }
        return members + "private int f" + length + "() { return 0; }";
    }

    private static String fields(int count) {
        StringBuilder members = new StringBuilder("private static final int N = 1;\n");
        for (int i = 0; i < count; i++) {
            members.append("private int a" + i + ";\n");
        }
        return members.toString();
    }
}
