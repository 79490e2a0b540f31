import java.io.IOException;
import java.nio.file.Files;
import java.nio.file.Path;
import java.util.List;

/** The program breaks no rule of LANGUAGE.md that its text can show, and Rules finds each breach that it looks for. */
final class RulesTest {
    private static final String HEAD = "public final class AmbEvaluator { private static final int C = 2; int n = 0; ";

    private RulesTest() {
    }

    public static void main(String[] arguments) throws IOException {
        String program = Files.readString(Path.of("src/main/java/AmbEvaluator.java"));
        Checks.due("the program", Rules.findings(program).toString(), "[]");
        keptRules();
        membersAndTypes();
        arrays();
        forms();
        loopsAndCalls();
        sizes();
        Checks.finish();
    }

    private static void dueBroken(int rule, String source) throws IOException {
        List<String> findings = Rules.findings(source);
        boolean found = findings.stream().anyMatch(finding -> finding.startsWith("rule " + rule + ":"));
        Checks.due("rule " + rule + " found broken in " + source + " " + findings, found, true);
    }

    private static void dueBrokenIn(int rule, String... members) throws IOException {
        for (String member : members) {
            dueBroken(rule, HEAD + member + " }");
        }
    }

    private static void dueBrokenBy(int rule, String... statements) throws IOException {
        for (String statement : statements) {
            dueBroken(rule, HEAD + "void m(int[] a, int b) { " + statement + " } int f(int i) { return i; } }");
        }
    }

    private static void keptRules() throws IOException {
        String[] members = {"private final int[] a = new int[C * (C + 1)];", "private final boolean[] a = new boolean[4];",
            "void f(int[] a) { this.n = a.length; }", "long f(int i) { return (long) i; } void g() { n = n + (int) f(2); }",
            "void f() { for (int i = 0; i < 9 && n > 0; i++) { n--; } for (int i = 9; i >= 0; i--) { n = i; } }",
            "void f() { }  void g() { f(); f(); }", "static final long D = -C;"};
        for (String member : members) {
            Checks.due("nothing is broken in " + member, Rules.findings(HEAD + member + " }").toString(), "[]");
        }
    }

    private static void membersAndTypes() throws IOException {
        dueBroken(1, "package p; public final class AmbEvaluator { }");
        dueBroken(1, "public final class AmbEvaluator { } class Second { }");
        dueBroken(1, "interface AmbEvaluator { }");
        dueBrokenIn(1, "class Inner { }", "enum Inner { A }", "record Inner(int a) { }", "interface Inner { }",
            "void f() { } void f(int i) { }", "void f() { class Inner { } }");
        dueBrokenIn(2, "float x;", "double[] x = new double[3];", "String x;", "int[][] x = new int[3][];", "Integer x;",
            "void f(Object o) { }", "double f() { return 1; }");
        dueBrokenBy(2, "double x = 1;", "n = (int) 1.5;", "n = (int) 1.5f;", "var x = 1;", "String x;", "f(\"x\");");
        dueBroken(3, "import java.util.List; public final class AmbEvaluator { }");
        dueBrokenBy(3, "n = Math.max(1, 2);", "hashCode();", "n = Integer.MAX_VALUE;", "this.hashCode();",
            "System.out.println();", "a.clone();");
    }

    private static void arrays() throws IOException {
        dueBrokenIn(4, "int[] a = new int[3];", "final int[] a;", "final int[] a = new int[n];",
            "final int[] a = {1, 2};", "final int[] a = new int[] {1, 2};", "int[] f() { return a; }");
        dueBrokenBy(4, "g(new int[3]);", "int[] x = a;", "n = a == null ? 1 : 2;", "new Object();");
        dueBrokenIn(5, "static int x = 0;", "static final int[] X = new int[2];", "static { }", "static final int X = f();",
            "{ n = 2; }");
    }

    private static void forms() throws IOException {
        dueBrokenBy(6, "throw x;", "try { n = 1; } finally { n = 2; }", "synchronized (this) { }", "assert n > 0;",
            "n = a instanceof Object ? 1 : 2;", "f(i -> i);", "f(this::f);", "n = f((Object) a);");
        dueBrokenIn(6, "synchronized void f() { }");
        dueBrokenBy(7, "n = n / b;", "n = n % b;", "n /= b;", "n %= b;");
    }

    private static void loopsAndCalls() throws IOException {
        dueBrokenBy(8, "while (n > 0) { n--; }", "do { n--; } while (n > 0);", "for (int i : a) { n = i; }", "for (;;) { }",
            "for (int i = 0; n < 3; i++) { }", "for (int i = 0; i < 3; n++) { }", "for (int i = 0; i < 3; i++) { i = 0; }",
            "for (int i = 0; i < 3; i++) { i -= 1; }", "for (int i = 0; i < 3; i++) { i--; }",
            "for (int i = 0; i != 3; i++) { }", "for (int i = 0; i < 3 || n > 0; i++) { }", "m(a, b);");
        dueBrokenIn(8, "void f() { g(); } void g() { h(); } void h() { f(); }");
        dueBrokenBy(10, "f(f(1));", "n = f(1 + f(2));", "m(a, f(2));");
    }

    private static void sizes() throws IOException {
        dueBrokenIn(10, "void f(int a, int b, int c, int d, int e, int g, int h, int i) { }",
            "void f() { " + "n++;\n".repeat(60) + "}", "int x; ".repeat(40),
            "void a() { b(); } void b() { c(); } void c() { d(); } void d() { e(); } void e() { f(); } "
            + "void f() { g(); } void g() { }");
    }
}
