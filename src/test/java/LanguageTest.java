import java.io.IOException;
import java.nio.file.Files;
import java.nio.file.Path;
import java.util.Set;

/** The class keeps to LANGUAGE.md; and what breaks one of its rules is found, so that the looking is worth something. */
public final class LanguageTest {
    private static final Path PROGRAM = Path.of("src/main/java/RevokeQuarantine.java");

    private static int wrong = 0;

    public static void main(String[] args) throws IOException {
        Set<String> broken = Language.brokenIn(Files.readString(PROGRAM));
        broken.forEach(LanguageTest::tell);
        whatIsAllowed();
        rulesOneToThree();
        ruleFour();
        rulesFiveToEight();
        ruleTen();
        System.out.println("the language: " + wrong + " not as due");
        if (wrong != 0) {
            System.exit(1);
        }
    }

    private static void whatIsAllowed() throws IOException {
        allowed("private int f(int a) { return a > 0 ? (int) (long) a : -a; }");
        allowed("private int f(int a) { var b = a; for (;;) { if (b > 3) { break; } b++; } return b; }");
        allowed("private int f(int a) { return a; } private int f(int a, int b) { return this.f(a) + A.ONE; } "
            + "private static final int ONE = 1;");
        allowed("private final int[] b = new int[64]; private int f(int a) { return a < b.length ? b[a] : this.b[0]; }");
        allowed("private static final int MOST = 64; private int[] b; public A(int n, int m) { b = new int[2 * (MOST + 1)]; }");
        allowed("private final int[] a = new int[4]; private int f() { int s = 0; for (int x : a) { s += x; } return s; }");
    }

    private static void rulesOneToThree() throws IOException {
        found(1, "private class Inner { }");
        found(1, "private enum Inner { A }");
        found(1, "public final class Inner { }");
        found(2, "private double d = 1;");
        found(2, "private int[][] d;");
        found(2, "private int f() { return (int) 1.5; }");
        found(2, "private int f() { return (int) 1.5f; }");
        found(2, "private int f() { String s = \"a\"; return 1; }");
        found(3, "private int f(int a) { return Math.abs(a); }");
        found(3, "private int f() { return Integer.MAX_VALUE; }");
        found(3, "private int f() { return hashCode(); }");
        found(3, "private int f() { return this.hashCode(); }");
        foundIn(1, "package p; public final class A { }");
        foundIn(1, "public final class A { } class B { }");
        foundIn(1, "public class A { }");
        foundIn(3, "import java.util.List; public final class A { }");
        foundIn(3, "public final class A implements Runnable { }");
    }

    private static void ruleFour() throws IOException {
        found(4, "private int f() { int[] a = new int[4]; return a[0]; }");
        found(4, "private final int[] a = {1, 2};");
        found(4, "private int n = 4; private final int[] a = new int[n];");
        found(4, "private int[] a = new int[4]; private void f(int[] b) { a = b; }");
        found(4, "private int[] a = new int[4]; private void f(int[] b) { this.a = b; }");
        found(4, "private final int[] a = new int[4]; private int[] f() { return a; }");
        found(4, "private final int[] a = new int[4]; private boolean f() { return a == null; }");
        found(4, "private int f() { return new A().hashCode(); }");
        found(4, "public A(int n, int m) { for (int i = 0; i < n; i++) { int[] a = new int[4]; } }");
        found(4, "public A(int n, int m) { if (n > 0) { int[] a = new int[4]; } }");
    }

    private static void rulesFiveToEight() throws IOException {
        found(5, "private static int count = 0;");
        found(5, "private static final int[] ROW = new int[4];");
        found(5, "private static final boolean YES = true;");
        found(5, "static { }");
        found(6, "private void f() { throw new RuntimeException(); }");
        found(6, "private void f() { try { return; } finally { } }");
        found(6, "private void f() throws Exception { }");
        found(6, "private void f() { synchronized (this) { } }");
        found(6, "private void f(int a) { assert a > 0; }");
        found(6, "private boolean f() { return this instanceof Object; }");
        found(6, "private void f() { Runnable r = () -> { }; }");
        found(6, "private void f() { Runnable r = this::f; }");
        found(6, "private void f() { Object o = (Object) this; }");
        found(8, "private int f(int a) { return f(a - 1); }");
        found(8, "private int f(int a) { return g(a); } private int g(int a) { return f(a); }");
    }

    private static void ruleTen() throws IOException {
        found(10, "private void f(int a, int b, int c, int d, int e, int g, int h, int i) { }");
        found(10, "private int f(int a) { return a; } private int g(int a) { return f(f(a)); }");
        found(10, "private void f(int a) {\n" + "a++;\n".repeat(60) + "}");
        found(10, "private void a() { } private void b() { a(); } private void c() { b(); } private void d() { c(); } "
            + "private void e() { d(); } private void f() { e(); } private void g() { f(); }");
        StringBuilder fields = new StringBuilder();
        for (int i = 0; i <= 40; i++) {
            fields.append("private int a").append(i).append(";\n");
        }
        found(10, fields.toString());
    }

    private static void allowed(String member) throws IOException {
        Language.brokenIn(around(member)).forEach(what -> tell(member + ": " + what));
    }

    private static void found(int rule, String member) throws IOException {
        foundIn(rule, around(member));
    }

    private static void foundIn(int rule, String source) throws IOException {
        if (Language.brokenIn(source).stream().noneMatch(what -> what.startsWith("rule " + rule + ","))) {
            tell("rule " + rule + " is broken, and not found to be, in " + source);
        }
    }

    private static String around(String member) {
        return "public final class A { " + member + " }";
    }

    private static void tell(String what) {
        wrong++;
        System.out.println(what);
    }
}
