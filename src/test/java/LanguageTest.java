import java.io.IOException;
import java.nio.file.Files;
import java.nio.file.Path;
import java.util.List;

/** The program keeps to LANGUAGE.md, and a program that breaks one of its rules is found out. */
public final class LanguageTest {
    private static final Check CHECK = new Check();

    public static void main(String[] args) throws IOException {
        List<String> faults = Language.faults(Files.readString(Path.of("src/main/java/ConceptLattice.java")));
        CHECK.due("faults of the program " + faults, faults.size(), 0);
        plainMembersPass();
        oneClass();
        types();
        library();
        arrays();
        staticFields();
        statements();
        divisors();
        loopsAndRecursion();
        calls();
        CHECK.end();
    }

    private static void plainMembersPass() throws IOException {
        due("private static final int N = 3; private final int[] a = new int[N]; private long b;"
                + " public ConceptLattice(int p) { b = p; this.b = f(a, 2); }"
                + " private static int f(int[] c, int k) { int s = 0; for (int i = 0; i < k; i++) { s += c.length / 2; }"
                + " return (byte) s; }", 0);
    }

    private static void oneClass() throws IOException {
        dueSource("package p; public final class ConceptLattice { }", 1);
        dueSource("final class ConceptLattice { }", 1);
        dueSource("public class ConceptLattice { }", 1);
        dueSource("public final class ConceptLattice { } class Other { }", 1);
        due("private static final class Inner { }", 1);
        due("private enum Inner { A }", 1);
        due("int visible;", 1);
        due("protected void f() { }", 1);
        due("void f() { }", 1);
        due("public int f() { return 1; } private int f(int k) { return k; }", 1);
    }

    private static void types() throws IOException {
        due("private double x;", 2);
        due("private float[] x = new float[2];", 2);
        due("private String x;", 2);
        due("private int[][] x;", 2);
        due("private void f() { var x = 1; }", 2);
        due("private int f() { return (int) 1.5; }", 2);
        due("private String f() { return \"\"; }", 2);
    }

    private static void library() throws IOException {
        dueSource("import java.util.List; public final class ConceptLattice { }", 3);
        due("private int f(int k) { return Math.abs(k); }", 3);
        due("private int f() { return Integer.MAX_VALUE; }", 3);
        due("private int f() { return hashCode(); }", 3);
        due("private int f() { return this.hashCode(); }", 3);
    }

    private static void arrays() throws IOException {
        due("private int f() { int[] a = new int[3]; return a[0]; }", 4);
        due("private int[] a = new int[3];", 4);
        due("private final int[] a = new int[0];", 4);
        due("private final int[] a = {1, 2};", 4);
        due("private final int size = 3; private final int[] a = new int[size];", 4);
        due("private final int[] a = new int[3]; private int[] f() { return a; }", 4);
        due("private final int[] a = new int[3]; private int f() { int[] b = a; return b[0]; }", 4);
        due("private final int[] a = new int[3]; private boolean f(int[] b) { return a == b; }", 4);
        due("private boolean f(int[] b) { return b == null; }", 4);
        due("private void f() { new ConceptLattice(); }", 4);
    }

    private static void staticFields() throws IOException {
        due("private static int x = 1;", 5);
        due("private static final boolean X = true;", 5);
        due("private static final int[] X = new int[3];", 5);
        due("private static final int X; static { X = 1; }", 5);
    }

    private static void statements() throws IOException {
        due("private void f() { throw new RuntimeException(); }", 6);
        due("private void f() { try { f(); } finally { } }", 6);
        due("private void f() { synchronized (this) { } }", 6);
        due("private synchronized void f() { }", 6);
        due("private void f(int k) { assert k > 0; }", 6);
        due("private boolean f() { return this instanceof ConceptLattice; }", 6);
        due("private void f() { Runnable r = () -> { }; }", 6);
        due("private void f() { Runnable r = this::f; }", 6);
        due("private void f() { Object o = (Object) this; }", 6);
    }

    private static void divisors() throws IOException {
        due("private int f(int k) { return 1 / k; }", 7);
        due("private int f(int k) { return 1 % k; }", 7);
        due("private int f(int k) { int s = 1; s /= k; return s; }", 7);
        due("private int f() { return 1 / 0; }", 7);
    }

    private static void loopsAndRecursion() throws IOException {
        due("private void f() { f(); }", 8);
        due("private void f() { g(); } private void g() { f(); }", 8);
        due("private void f() { this.f(); }", 8);
        due("private void f() { while (true) { } }", 8);
        due("private void f() { do { } while (true); }", 8);
        due("private void f() { for (;;) { } }", 8);
        due("private void f(int k) { for (int i = 0; i < k; i--) { } }", 8);
        due("private void f(int k) { for (int i = 0; i < k; i++) { i = 0; } }", 8);
        due("private void f(int k) { for (int i = 0; i < k; i++) { i--; } }", 8);
        due("private void f(int k) { for (int i = 0; i < k; i++) { k += 1; } }", 8);
        due("private void f(int k) { for (int i = 0; i != k; i++) { } }", 8);
        due("private void f(int[] a) { for (int k : a) { } }", 8);
    }

    private static void calls() throws IOException {
        due("private int f(int a, int b, int c, int d, int e, int g, int h, int i) { return 1; }", 10);
        due("private int f(int k) { return k; } private int g() { return f(1 + f(2)); }", 10);
        due("private void f() {" + "int k; {".repeat(40) + "}".repeat(40) + "}", 10);
        due("private void a() { b(); } private void b() { c(); } private void c() { d(); }"
                + " private void d() { e(); } private void e() { f(); } private void f() { g(); } private void g() { }", 10);
        StringBuilder fields = new StringBuilder();
        for (int k = 0; k < 41; k++) {
            fields.append("private int x").append(k).append("; ");
        }
        due(fields.toString(), 10);
    }

    private static void due(String members, int rule) throws IOException {
        dueSource("public final class ConceptLattice { " + members + " }", rule);
    }

    // Rule 0 stands for no fault at all.
    private static void dueSource(String source, int rule) throws IOException {
        List<String> faults = Language.faults(source);
        boolean found = rule == 0 ? faults.isEmpty()
                : faults.stream().anyMatch(fault -> fault.startsWith("rule " + rule + ":"));
        CHECK.due("rule " + rule + " in: " + source + " " + faults, found ? 1 : 0, 1);
    }
}
