import java.nio.charset.StandardCharsets;
import java.nio.file.Files;
import java.nio.file.Path;
import java.util.List;

/** The class keeps to LANGUAGE.md, as far as its tree shows; and each rule that is looked for here is found broken. */
public final class LawTest {
    private static final String[][] BROKEN = {
        {"1", "package some;public final class HeadHill { }"},
        {"2", "int f() { Runnable r = () -> { }; return 0; }"},
        {"2", "class Inner { }"},
        {"2", "int f() { class Local { } return 0; }"},
        {"2", "static class A { } A f() { return new A() { }; }"},
        {"3", "int f(String[] texts) { return texts == null ? 0 : texts.length; }"},
        {"3", "int f() { Object any = null; return any == null ? 0 : 1; }"},
        {"3", "int f() { long[][][] deep = null; return deep == null ? 0 : 1; }"},
        {"3", "static class A { } A[][] rows = null;"},
        {"4", "int f() { return Integer.MIN_VALUE; }"},
        {"4", "int f() { return Math.addExact(1, 2); }"},
        {"4", "int f() { return (int) Math.sqrt(2); }"},
        {"4", "int f(String s) { return s == null ? 0 : s.trim().length(); }"},
        {"4", "int f() { return Integer.parseInt(\"1\"); }"},
        {"4", "long f() { return System.nanoTime(); }"},
        {"4", "int f(int[] row) { java.util.Arrays.sort(row); return 0; }"},
        {"4", "int f() { return new java.util.Random(1).nextInt(); }"},
        {"4", "char f() { return '\\u00e9'; }"},
        {"4", "import java.util.HashMap;public final class HeadHill { }"},
        {"5", "private static int state = 0;"},
        {"5", "static class A { } private static final A ONE = new A();"},
        {"5", "private static final int[] ROW = {1}; static { ROW[0] = 2; }"},
        {"6", "int f() { throw new IllegalArgumentException(); }"},
        {"6", "int f() { try { return 1; } finally { f(); } }"},
        {"6", "int f() { synchronized (this) { return 1; } }"},
        {"6", "int f(int n) { assert n > 0; return n; }"},
        {"6", "interface A { } static class B implements A { } B f(A a) { return (B) a; }"},
        {"6", "boolean f(String a, String b) { return a == b; }"},
        {"7", "int f(int a, int b) { return a / b; }"},
        {"7", "int f(int a, int b) { return a % b; }"},
        {"7", "int f(int a, int b) { int c = a; c /= b; return c; }"},
        {"7", "int f(int a) { return a / 0; }"},
        {"8", "int f() { return g(); } int g() { return f(); }"},
        {"8", "private int f(int n) { return n > 0 ? f(n - 1) : 0; }"},
        {"9", "int f() { for (;;) { f(); } }"},
        {"9", "int f(int n) { while (n > 0) { f(n); } return 0; }"},
        {"9", "int f(int n) { int k = 0; do { k++; } while (n > 0); return k; }"},
        {"9", "int f(int n) { for (int i = 0; n > 0; i++) { f(i); } return 0; }"},
        {"10", "String f(int n) { return \"a\" + n; }"},
        {"10", "int f(String s) { switch (s) { default: return 0; } }"},
        {"11", "int f(int a, int b, int c, int d, int e, int f, int g, int h) { return 0; }"},
        {"11", "int f() {" + "\n".repeat(60) + "return 0; }"},
        {"11", "int a() { return b(); } int b() { return c(); } int c() { return d(); } int d() { return e(); }"
            + "int e() { return f(); } int f() { return g(); } int g() { return h(); }"
            + "int h() { return Math.max(1, 2); }"},
        {"11", "int a, b, c, d, e, f, g, h, i, j, k, l, m, n, o, p, q, r, s, t, u;"},
        {"11", "interface A { } interface B { } interface C { } interface D { } interface E { } interface F { }"
            + "interface G { } interface H { } interface I { } interface J { } interface K { } interface L { }"},
    };
    private static final String[] KEPT = {
        "int f(int a, int b) { return b == 0 ? 0 : a / b; }",
        "int f(int a) { return a / 3 + a % 100; }",
        "int f(int n) { int k = n; while (k > 0) { k--; } return Math.abs(k); }",
        "private static int f(int n, int depth) { return depth > 9 ? n : f(n, depth + 1); }",
        "interface A { } static class B implements A { } B f(A a) { return a instanceof B b ? b : null; }",
        "int[][] f() { int[][] rows = new int[2][3]; return rows; }",
        "int f(int[] row) { if (row == null) { return 0; } java.util.Arrays.fill(row, 1); return row.length; }",
        "String f(int n) { StringBuilder text = new StringBuilder(); text.append(n).append('a'); "
            + "return text.toString(); }",
        "int f() { java.util.ArrayList<Integer> row = new java.util.ArrayList<>(); row.add(1); return row.size(); }",
        "private static final int[] ROW = {1, 2}; private static final String WORDS = \"a b\";",
    };

    public static void main(String[] args) throws Exception {
        Checks checks = new Checks();
        String source = Files.readString(Path.of("src/main/java/HeadHill.java"), StandardCharsets.ISO_8859_1);
        for (String breach : Law.breachesOf(source)) {
            checks.holds("HeadHill.java, " + breach, false);
        }
        for (String[] broken : BROKEN) {
            List<String> breaches = Law.breachesOf(asClass(broken[1]));
            boolean found = breaches.stream().anyMatch(b -> b.matches("(?s)rule " + broken[0] + "[,:].*"));
            checks.holds("rule " + broken[0] + " is found broken in " + broken[1] + ", found: " + breaches, found);
        }
        for (String kept : KEPT) {
            List<String> breaches = Law.breachesOf(asClass(kept));
            checks.holds("nothing is found in " + kept + ", found: " + breaches, breaches.isEmpty());
        }
        checks.finish("LawTest");
    }

    private static String asClass(String members) {
        return members.contains("class HeadHill") ? members : "public final class HeadHill { " + members + " }";
    }
}
