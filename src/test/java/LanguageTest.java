import java.io.IOException;
import java.nio.file.Files;
import java.nio.file.Path;
import java.util.List;

/** The class keeps to ../shared/LANGUAGE.md, and LanguageRules would see it if it didn't. */
public final class LanguageTest {
    private static final Check CHECK = new Check("LanguageTest");

    public static void main(String[] args) throws IOException {
        List<String> breaches = LanguageRules.breaches(Files.readString(Path.of("src/main/java/IceSearch.java")));
        for (String breach : breaches) {
            System.out.println("LANGUAGE.md, rule " + breach);
        }
        CHECK.due("breaches", breaches.size(), 0);
        testPlainClass();
        testOfFaceAndClasses();
        testOfTypesAndLibrary();
        testOfState();
        testOfWords();
        testOfLoopsAndCalls();
        testOfLengths();
        CHECK.end();
    }

    /** Puts members into a class that is fine without them. */
    private static String with(String members) {
        return "import java.util.Arrays;\npublic final class IceSearch {\n    public static final int NONE = -1;\n"
            + "    private int a;\n    public IceSearch() { a = 1; }\n    public int fits(int n) { return a; }\n"
            + "    private static final class Inside { private int b; }\n" + members + "\n}\n";
    }

    private static void seen(int rule, String source) throws IOException {
        List<String> breaches = LanguageRules.breaches(source);
        boolean is = !breaches.isEmpty() && breaches.stream().allMatch(b -> b.startsWith(rule + ": "));
        CHECK.that("rule " + rule + " alone is broken by " + source + ", seen " + breaches, is);
    }

    private static void fine(String members) throws IOException {
        CHECK.that("nothing is broken by " + members + ": " + LanguageRules.breaches(with(members)),
            LanguageRules.breaches(with(members)).isEmpty());
    }

    private static void testPlainClass() throws IOException {
        fine("");
        fine("private int[][] rows = new int[4][4]; private final Inside[] all = new Inside[3];");
        fine("private int f(String s) { return s.isEmpty() ? Math.min(1, 2) : s.indexOf('x'); }");
        fine("private int f(int n) { int by = Math.max(1, n); return 7 / by % 3; }");
        fine("private int f(int n) { int i = 0; while (i < n && i < 9) { i++; } return i; }");
        fine("private int f(int n) { return n < 1 ? 0 : f(n - 1); }");
        fine("private static final int[] ROWS = {1, 2}; private static final String S = \"ab\";");
    }

    private static void testOfFaceAndClasses() throws IOException {
        seen(1, "package x;\n" + with(""));
        seen(1, with("").replace("public final class IceSearch", "public class IceSearch"));
        seen(1, with("") + "final class Second { }");
        seen(1, with("int open;"));
        seen(1, with("protected int f() { return 1; }"));
        seen(1, with("int f() { return 1; }"));
        seen(1, with("public static final class Seen { }"));
        seen(1, with("private int fits() { return 1; }"));
        seen(1, with("private static final class Other { int fits(int n) { return n; } }"));
        seen(2, with("private final class Other { }"));
        seen(2, with("private int f() { final class Local { } return 1; }"));
        seen(2, with("private static class Open { } private Open f() { return new Open() { }; }"));
        seen(2, with("class Other { }"));
        String act = "private interface Act { int to(int n); } ";
        seen(2, with(act + "private Act f() { return n -> n; }"));
        seen(2, with(act + "private Act f() { return Math::abs; }"));
    }

    private static void testOfTypesAndLibrary() throws IOException {
        seen(3, with("private Object o;"));
        seen(3, with("private String[] texts;"));
        seen(3, with("private int[][][] deep;"));
        seen(3, with("private Inside[][] deep;"));
        seen(3, with("private boolean[][] deep;"));
        seen(3, with("private java.util.function.IntSupplier s;"));
        seen(4, "import java.util.Random;\n" + with(""));
        seen(4, with("private int f(String s) { return s.hashCode(); }"));
        seen(4, with("private int f(String s) { return s.indexOf(\"x\"); }"));
        seen(4, with("private int f(int n) { return Math.addExact(n, 1); }"));
        seen(4, with("private void f(boolean[] all) { Arrays.fill(all, true); }"));
        seen(4, with("private void f(Inside[] all) { Arrays.fill(all, null); }"));
        seen(4, with("private void f(int[] all) { Arrays.sort(all); }"));
        seen(4, with("private long f() { return System.nanoTime(); }"));
        seen(4, with("private int f() { return Integer.MAX_VALUE; }"));
        seen(4, with("private int f() { System.out.println(); return 1; }"));
        seen(4, with("private static final char E = '\\u00e9';"));
        seen(4, with("private static final String E = \"\\u0000\";"));
        seen(4, with("@Deprecated private int f() { return 1; }"));
    }

    private static void testOfState() throws IOException {
        seen(5, with("private static int state;"));
        seen(5, with("private static final int[] ROW = new int[3];"));
        seen(5, with("private static final Inside ONE = new Inside();"));
        seen(5, with("private static final int[][] ROWS = {{1}};"));
        seen(5, with("static { }"));
        String row = "private static final int[] ROW = {1, 2}; ";
        seen(5, with(row + "private void f() { ROW[0] = 2; }"));
        seen(5, with(row + "private void f() { ROW[0] += 2; }"));
        seen(5, with(row + "private void f() { IceSearch.ROW[1]++; }"));
        seen(5, with(row + "private void f() { Arrays.fill(ROW, 1); }"));
        seen(5, with(row + "private void f(int[] of) { System.arraycopy(of, 0, ROW, 0, 1); }"));
    }

    private static void testOfWords() throws IOException {
        seen(6, with("private void f() { throw null; }"));
        seen(6, with("private void f() throws Error { }"));
        seen(6, with("private void f() { int b = 1; assert b == 1; }"));
        seen(6, with("private synchronized void f() { }"));
        seen(6, with("private int f(Inside i) { synchronized (i) { return 1; } }"));
        seen(6, with("private int f() { try { return 1; } finally { a = 2; } }"));
        seen(6, with("private boolean f(String s, String t) { return s == t; }"));
        seen(6, with("private static final class One { public String toString() { return null; } }"));
        seen(6, with("private Inside f(Inside i) { return (Inside) i; }"));
        seen(7, with("private int f(int n) { return 7 / n; }"));
        seen(7, with("private int f(int n) { return 7 % n; }"));
        seen(7, with("private int f(int n) { int m = 7; m /= n; return m; }"));
        seen(7, with("private int f(int n) { int by = Math.max(0, n); return 7 / by; }"));
        seen(10, with("private String f(String s) { return s + 1; }"));
        seen(10, with("private String f(String s) { s += 1; return s; }"));
        seen(10, with("private int f(String s) { switch (s) { default: return 1; } }"));
        seen(10, with("// \u00e9"));
    }

    private static void testOfLoopsAndCalls() throws IOException {
        seen(8, with("private int f() { return f(); }"));
        seen(8, with("private static final class One { int f(int n) { return f(n - 1); } }"));
        seen(8, with("private int f() { return g(); } private int g() { return f(); }"));
        seen(9, with("private void f() { for (;;) { a++; } }"));
        seen(9, with("private void f(int n) { for (int i = 0; n < 9; i++) { a++; } }"));
        seen(9, with("private void f(boolean b) { while (b) { a++; } }"));
        seen(9, with("private void f(int n) { while (n < 3) { a++; } }"));
        seen(9, with("private void f(int n) { do { a++; } while (n < 3 || a < 2); }"));
        seen(12, with("private void f() { int i = 0; while (i < 3) { i++; int[] row = new int[i]; } }"));
        seen(12, with("private void f() { int i = 0; do { i++; Inside in = new Inside(); } while (i < 3); }"));
        seen(12, with("private boolean g(IceSearch x) { return x == null; } private boolean f() { return g(this); }"));
    }

    private static void testOfLengths() throws IOException {
        seen(11, with("private void f(int b, int c, int d, int e, int f, int g, int h, int i) { }"));
        seen(11, with("private void f() {" + "\n".repeat(60) + "}"));
        fine("private void f() {" + "\n".repeat(59) + "}");
        StringBuilder chain = new StringBuilder("private void f9() { }");
        for (int i = 8; i >= 0; i--) {
            chain.append(" private void f").append(i).append("() { f").append(i + 1).append("(); }");
        }
        seen(11, with(chain.toString()));
        fine(chain.toString().replace("private void f0() { f1(); }", ""));
        StringBuilder classes = new StringBuilder();
        StringBuilder fields = new StringBuilder();
        for (int i = 0; i < 20; i++) {
            fields.append("private int b").append(i).append("; ");
            classes.append(i < 11 ? "private static final class C" + i + " { } " : "");
        }
        seen(11, with(classes.toString()));
        fine(classes.toString().replace("private static final class C0 { }", ""));
        seen(11, with(fields.toString()));
        fine(fields.toString().replace("private int b0;", ""));
    }
}
