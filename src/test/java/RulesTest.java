import java.io.IOException;
import java.nio.file.Files;
import java.nio.file.Path;
import java.util.List;

/** The rules of LANGUAGE.md: the class keeps to them; and a file that breaks one of them would be seen. */
public final class RulesTest {
    public static void main(String[] args) throws IOException {
        theClassKeepsToThem();
        breachesAreSeen();
        whatIsLeftIsNotSeen();
        Check.end();
    }

    private static void theClassKeepsToThem() throws IOException {
        String source = Files.readString(Path.of("src/main/java/OrganBarrel.java"));
        List<String> breaches = Rules.breachesOf(source);
        for (String breach : breaches) {
            Check.that("rule " + breach, false);
        }
        Check.due("breaches of the class", breaches.size(), 0);
        Check.that("rule 4: its signs are 1 to 127", source.chars().allMatch(c -> c >= 1 && c <= 127));
    }

    /** A class with these members breaks this rule. */
    private static void breaks(int rule, String members) throws IOException {
        List<String> breaches = Rules.breachesOf("public final class OrganBarrel {" + members + "}");
        boolean seen = false;
        for (String breach : breaches) {
            seen = seen || breach.startsWith(rule + ":");
        }
        Check.that("that '" + members + "' breaks rule " + rule + " is seen: " + breaches, seen);
    }

    private static void keeps(String members) throws IOException {
        List<String> breaches = Rules.breachesOf("import java.util.Arrays; public final class OrganBarrel {" + members + "}");
        Check.that("'" + members + "' breaks none: " + breaches, breaches.isEmpty());
    }

    private static void breachesAreSeen() throws IOException {
        breaks(1, "int seen;");
        breaks(1, "protected int seen() { return 0; }");
        breaks(1, "public int side(int v) { return v; } private int side(int v, int w) { return v; }");
        breaks(1, "public int side(int v) { return v; } private static final class A { int side() { return 0; } }");
        breaks(1, "public static final class A { }");
        breaks(2, "private final class A { }");
        breaks(2, "private static class A { } private A a = new A() { };");
        breaks(2, "private int a() { final class B { } return 0; }");
        breaks(2, "private interface F { int f(); } private F f = () -> 1;");
        breaks(2, "private interface F { int f(); } private static int g() { return 1; } private F f = OrganBarrel::g;");
        breaks(3, "private Object o;");
        breaks(3, "private java.util.HashMap<Integer, Integer> m;");
        breaks(3, "private int[][][] rows;");
        breaks(3, "private String[][] rows;");
        breaks(4, "private int a(int b) { return Math.addExact(b, 1); }");
        breaks(4, "private long a() { return System.nanoTime(); }");
        breaks(4, "private double a() { return Math.random(); }");
        breaks(4, "private void a(int[] r) { java.util.Arrays.sort(r); }");
        breaks(4, "private void a() { System.out.println(); }");
        breaks(4, "private int a(String s) { return s.hashCode(); }");
        breaks(5, "private static int a = 1;");
        breaks(5, "private static final int[] A = new int[3];");
        breaks(5, "private static final class B { } private static final B A = new B();");
        breaks(5, "private static final int[] A = {1, 2}; private void b() { A[0] = 3; }");
        breaks(5, "static { }");
        breaks(6, "private void a() { throw new IllegalArgumentException(); }");
        breaks(6, "private void a() { try { } finally { } }");
        breaks(6, "private void a() { synchronized (this) { } }");
        breaks(6, "private void a(int b) { assert b > 0; }");
        breaks(6, "private boolean a(String s, String t) { return s == t; }");
        breaks(6, "public String toString() { return new String(); }");
        breaks(8, "private int a(int b) { return b < 1 ? 0 : a(b - 1); }");
        breaks(8, "private int a(int b) { return b < 1 ? 0 : c(b - 1); } private int c(int b) { return a(b); }");
        breaks(9, "private void a() { for (;;) { } }");
        breaks(9, "private void a(int b) { for (int i = 0; b < 9; i++) { } }");
        breaks(9, "private void a(int b) { for (int i = 0; i < 9; i++) { i = 0; } }");
        breaks(9, "private void a(boolean b) { while (b) { } }");
        breaks(9, "private void a(boolean b) { do { } while (b); }");
        breaks(10, "private String a(String b) { return b + 1; }");
        breaks(10, "private int a(String b) { switch (b) { default: return 1; } }");
        breaks(11, "private int a(int b, int c, int d, int e, int f, int g, int h, int i) { return 0; }");
        breaks(11, "private int a() {" + "\n".repeat(60) + "return 0; }");
        breaks(11, "private int a, b, c, d, e, f, g, h, i, j, k, l, m, n, o, p, q, r, s, t, u;");
        breaks(11, chain(9));
        breaks(12, "private int[] a() { return new int[3]; }");
        breaks(12, "private static class A { }");
        StringBuilder classes = new StringBuilder();
        for (int i = 0; i < 12; i++) {
            classes.append("private static final class A").append(i).append(" { }");
        }
        breaks(11, classes.toString());
    }

    /** Methods of which each calls the next. */
    private static String chain(int length) {
        StringBuilder members = new StringBuilder();
        for (int i = 1; i < length; i++) {
            members.append("private int a").append(i).append("() { return a").append(i + 1).append("(); }");
        }
        return members.append("private int a").append(length).append("() { return 0; }").toString();
    }

    private static void whatIsLeftIsNotSeen() throws IOException {
        keeps(chain(8));
        keeps("private static final int[] A = {1, 2}; private static final String B = \"b\"; private final int[][] c = new int[2][3];");
        keeps("private final int[] a = new int[3]; private void b() { Arrays.fill(a, Math.min(1, 2)); System.arraycopy(a, 0, a, 1, 2); }");
        keeps("private int a(int b, int c, int d, int e, int f, int g, int h) { for (int i = 0; i < b; i++) { c = c + i; } return c; }");
        keeps("private int a() {" + "\n".repeat(59) + "return 0; }");
    }
}
