import java.io.IOException;
import java.nio.file.Files;
import java.nio.file.Path;
import java.util.Set;

/**
 * The program keeps to the rules of LANGUAGE.md that its text shows; FaceTest has those of its
 * members. Texts that break a rule, and texts that come near to it, show that LanguageRules tells
 * the one from the other.
 */
public final class LanguageTest {
    public static void main(String[] args) throws IOException {
        String source = Files.readString(Path.of("src/main/java/BitBlaster.java"));
        Set<String> broken = LanguageRules.brokenBy(source);
        Check.isTrue("the program keeps to LANGUAGE.md, but " + broken, broken.isEmpty());
        brokenTexts();
        brokenMembers();
        brokenStatements();
        brokenCalls();
        allowedMembers();
        allowedStatements();
        Check.end();
    }

    private static void brokenTexts() throws IOException {
        breaksText(1, "package p; public final class BitBlaster { }");
        breaksText(1, "public final class BitBlaster { } class Other { }");
        breaksText(1, "public final class BitBlaster extends Other { }");
        breaksText(1, "public final class BitBlaster implements Runnable { }");
        breaksText(3, "import java.util.List; public final class BitBlaster { }");
    }

    private static void brokenMembers() throws IOException {
        breaks(1, "private static final class Nested { }");
        breaks(1, "private enum Kind { ONE }");
        breaks(1, "private interface Call { }");
        breaks(1, "private record Pair(int a, int b) { }");
        breaks(2, "private float fraction;");
        breaks(2, "private String text;");
        breaks(2, "private Object[] objects;");
        breaks(2, "private int[][] table;");
        breaks(2, "private long f(Integer boxed) { return 0; }");
        breaks(2, "private String f() { return text; }");
        breaks(2, "private final int[] table = new int[2][3];");
        breaks(2, "private final int other = new BitBlaster(2).n;");
        breaks(4, "private final int[] table = new int[0];");
        breaks(4, "private final int[] table = new int[n];");
        breaks(4, "private final int[] table = new int[f()]; private static int f() { return 1; }");
        breaks(4, "private int[] table() { return row; }");
        breaks(4, "private BitBlaster(int a) { if (a > 0) { row = new int[4]; } }");
        breaks(4, "private BitBlaster(int a) { for (int i = 0; i < a; i++) { row = new int[4]; } }");
        breaks(4, "private BitBlaster(int a) { g(); row = new int[4]; }");
        breaks(4, "private BitBlaster(int a) { row = new int[4]; h(row); } private void h(int[] r) { }");
        breaks(5, "private static final int[] TABLE = new int[4];");
        breaks(5, "private static int counter = 0;");
        breaks(5, "private static final boolean TRUTH = true;");
        breaks(5, "static { }");
        breaks(6, "private synchronized void f() { }");
        breaks(6, "private void f() throws Exception { }");
        breaks(10, "private int f(int a, int b, int c, int d, int e, int f, int g, int h) { return 0; }");
        breaks(10, "private void f() {" + "\nn++;".repeat(80) + "\n}");
        StringBuilder fields = new StringBuilder();
        for (int i = 0; i < 50; i++) {
            fields.append("private int field").append(i).append(";");
        }
        breaks(10, fields.toString());
    }

    private static void brokenStatements() throws IOException {
        breaksIn(2, "double x = 1;");
        breaksIn(2, "n = (int) 1.5;");
        breaksIn(2, "n += \"text\".length();");
        breaksIn(3, "n = Math.max(n, 1);");
        breaksIn(3, "n = Integer.MAX_VALUE;");
        breaksIn(3, "System.gc();");
        breaksIn(3, "n = hashCode();");
        breaksIn(4, "int[] x = new int[3];");
        breaksIn(4, "int[] x = null;");
        breaksIn(4, "row = other;");
        breaksIn(4, "this.row = other;");
        breaksIn(4, "n = row == other ? 1 : 0;");
        breaksIn(4, "int[] x = row; n = x != row ? 1 : 0;");
        breaksIn(4, "int[] x = row; for (int i = 0; i < 3; i++) { x = other; }");
        breaksIn(6, "throw x;");
        breaksIn(6, "try { n++; } finally { n--; }");
        breaksIn(6, "synchronized (this) { n++; }");
        breaksIn(6, "assert n > 0;");
        breaksIn(6, "n = this instanceof BitBlaster ? 1 : 0;");
        breaksIn(6, "n = ((BitBlaster) this).n;");
        breaksIn(6, "Runnable r = () -> { };");
        breaksIn(6, "Runnable r = this::g;");
        breaksIn(8, "while (true) { n++; }");
        breaksIn(8, "for (;;) { }");
        breaksIn(8, "for (int i = 0; i < 3; n++) { }");
        breaksIn(8, "int i = 0; while (i < 3) { n++; }");
        breaksIn(8, "boolean on = true; do { n++; } while (on);");
    }

    private static void brokenCalls() throws IOException {
        breaks(8, "private int f(int a) { return a == 0 ? 0 : f(a - 1); }");
        breaks(8, "private int f(int a) { return k(a); } private int k(int a) { return this.f(a); }");
        breaks(8, "private int f(int a) { return k(a, a); } private int k(int a, int b) { return f(a); }");
        breaks(10, "private int f(int a) { return a; } private int k(int a) { return f(f(a)); }");
        breaks(10, "private int f(int a) { return a; } private int k(int a) { return f(1 + (f(a) << 2)); }");
        breaks(10, "private int f(int a) { return a; } private int k() { return f(row[f(0)]); }");
        breaks(10, chain(7));
    }

    /** Methods of which each calls the next one, so many calls deep. */
    private static String chain(int calls) {
        StringBuilder methods = new StringBuilder("private int f" + calls + "() { return n; }");
        for (int i = 0; i < calls; i++) {
            methods.append("private int f").append(i).append("() { return f").append(i + 1).append("(); }");
        }
        return methods.toString();
    }

    private static void allowedMembers() throws IOException {
        allows("private final boolean[] table = new boolean[1];");
        allows("private static final int SIZE = 4; private final long[] table = new long[2 * SIZE];");
        allows("private static final long SEED = 5L;");
        allows("private final byte[] table;"
            + "private BitBlaster(int a) { super(); this.table = new byte[9]; g(); }");
        allows("private int f(int[] a, int i) { return a[i]; } private int k() { return f(row, 0); }");
        allows("private int f(int a) { return f(a, 1); } private int f(int a, int b) { return a + b; }");
        allows("private int f(int a) { return a; } private int k() { return f(1) + f(2); }");
        allows("private int f(int a, int b, int c, int d, int e, int f, int g) { return 0; }");
        allows("private void f() {" + "\nn++;".repeat(55) + "\n}");
        allows(chain(6));
    }

    private static void allowedStatements() throws IOException {
        allowsIn("n = (int) (byte) n; char c = 'a'; short s = 1; long l = n;");
        allowsIn("int i = 0; while (i < 3) { i++; }");
        allowsIn("int i = 9; do { i -= 2; } while (i > 0);");
        allowsIn("int i = 0; while (true) { if (i >= 3) { break; } i = i + 1; }");
        allowsIn("for (int i = 3, j = 0; j <= i; i--, ++j) { n += i; }");
        allowsIn("for (int x : row) { n += x; }");
        allowsIn("outer: for (int i = 0; i < row.length; i++) { if (row[i] == 1) { continue outer; } }");
        allowsIn("n = switch (n) { case 1 -> 2; case 3, 4 -> 5; default -> 6; };");
        allowsIn("int[] x = n > 0 ? row : other; for (int i = 0; i < 3; i++) { x[i] = n; }");
        allowsIn("row[0] = other[0]; this.n = BitBlaster.ONE; g(); this.g();");
        allowsIn("boolean truth = n < 1 || n > 2 && row[0] != other[0];");
    }

    private static void breaks(int rule, String member) throws IOException {
        breaksText(rule, around(member));
    }

    private static void breaksIn(int rule, String statements) throws IOException {
        breaks(rule, "private void f() { " + statements + " }");
    }

    private static void breaksText(int rule, String text) throws IOException {
        Set<String> broken = LanguageRules.brokenBy(text);
        Check.isTrue("rule " + rule + " is broken by " + text + ", told is " + broken,
            broken.stream().anyMatch(told -> told.matches("rule " + rule + "\\b.*")));
    }

    private static void allows(String member) throws IOException {
        Set<String> broken = LanguageRules.brokenBy(around(member));
        Check.isTrue("no rule is broken by " + member + ", told is " + broken, broken.isEmpty());
    }

    private static void allowsIn(String statements) throws IOException {
        allows("private void f() { " + statements + " }");
    }

    private static String around(String member) {
        return "public final class BitBlaster { private static final int ONE = 1; private int n;"
            + "private int[] row = new int[4]; private final int[] other = new int[ONE];"
            + "private void g() { n = 1; }" + member + "}";
    }
}
