import java.io.IOException;
import java.nio.file.Files;
import java.nio.file.Path;
import java.util.Set;
import java.util.stream.Collectors;
import java.util.stream.IntStream;

/** The class keeps to LANGUAGE.md, as far as the source shows it; and the look at the source sees each breach. */
public final class RulesTest {
    private static final String KEPT = """
        public final class GridFileIndex {
            private static final int MOST = 4;
            private final int[] list = new int[MOST];
            private int held;
            public GridFileIndex() {
                held = 0;
            }
            public int size() {
                return held;
            }
            // here
        }
        """;

    /** A rule's number, and members that break it. */
    private static final String[][] BREACHES = {
        {"1", "int inside;"},
        {"1", "public int inside;"},
        {"1", "protected int inside() { return 1; }"},
        {"1", "int inside() { return 1; }"},
        {"1", "private int size(int x) { return x; }"},
        {"1", "private static final class Inner { }"},
        {"1", "private enum Inner { A }"},
        {"1", "private record Inner(int x) { }"},
        {"2", "private float f;"},
        {"2", "private int f() { double d = 1; return (int) d; }"},
        {"2", "private int f() { return (int) 1.5; }"},
        {"2", "private int f(int[][] g) { return g[0][0]; }"},
        {"2", "private void f(String s) { }"},
        {"2", "private Object f() { return this; }"},
        {"2", "private int f() { var s = \"x\"; return 1; }"},
        {"3", "private int f() { return Math.abs(held); }"},
        {"3", "private int f() { return Integer.MAX_VALUE; }"},
        {"3", "private int f() { return java.util.Arrays.hashCode(list); }"},
        {"3", "private int f() { return hashCode(); }"},
        {"3", "private int f() { list.clone(); return 0; }"},
        {"3", "@Deprecated private int f() { return 0; }"},
        {"4", "private void f() { int[] g = new int[3]; }"},
        {"4", "private final int[] g = new int[0];"},
        {"4", "private final int[] g = new int[2 + 2];"},
        {"4", "private final int[] g = {1, 2};"},
        {"4", "private final int[] g = MOST > 3 ? new int[3] : new int[4];"},
        {"4", "private int f() { return new GridFileIndex().held; }"},
        {"4", "private int[] f() { return list; }"},
        {"4", "private boolean f(int[] g) { return g == list; }"},
        {"4", "private boolean f(int[] g) { return g != null; }"},
        {"4", "private void f(int[] g) { g = list; }"},
        {"4", "private int first = size();"},
        {"5", "private static int s = 3;"},
        {"5", "private static final short S = 3;"},
        {"5", "private static final int[] S = new int[3];"},
        {"5", "static { }"},
        {"6", "private void f() { throw new RuntimeException(); }"},
        {"6", "private void f() { try { held = 1; } finally { held = 2; } }"},
        {"6", "private void f() { synchronized (this) { held = 1; } }"},
        {"6", "private synchronized void f() { held = 1; }"},
        {"6", "private void f() { assert held > 0; }"},
        {"6", "private boolean f() { return (Object) this instanceof GridFileIndex; }"},
        {"6", "private void f() { Runnable r = () -> { }; }"},
        {"6", "private void f() { Runnable r = this::size; }"},
        {"6", "private void f() { Object o = (Object) list; }"},
        {"6", "private void f() throws Exception { }"},
        {"7", "private int f(int x) { return 5 / x; }"},
        {"7", "private int f(int x) { return 5 % (MOST * x); }"},
        {"7", "private int f(int x) { int a = 5; a /= x; return a; }"},
        {"7", "private int f(int x) { int a = 5; a %= 0; return a; }"},
        {"8", "private int f(int x) { return x == 0 ? 0 : f(x - 1); }"},
        {"8", "private int f(int x) { return g(x); } private int g(int x) { return x == 0 ? 0 : f(x - 1); }"},
        {"8", "private void f() { for (;;) { held = 1; } }"},
        {"8", "private void f() { for (int i = 0; i < 5;) { held = 1; } }"},
        {"8", "private void f() { for (int i = 0; i < 5; i--) { held = 1; } }"},
        {"8", "private void f() { for (int i = 0; i < 5; i++) { i--; } }"},
        {"8", "private void f() { for (int i = 0; i < 5; i++) { i = 2; } }"},
        {"8", "private void f() { for (int i = 0; i < held; i++) { held++; } }"},
        {"8", "private void f() { for (int i = 0; i < list[0]; i++) { list[0] += 1; } }"},
        {"8", "private void f() { for (int i = 0; i < size(); i++) { held = 1; } }"},
        {"8", "private void f() { for (int i = 0; i != 5; i++) { held = 1; } }"},
        {"8", "private void f() { while (true) { held = 1; } }"},
        {"8", "private void f() { int i = 5; while (i > 0) { if (held > 0) { i--; } } }"},
        {"8", "private void f() { int i = 5; while (i > 0) { if (held > 0) { continue; } i--; } }"},
        {"8", "private void f() { int i = 5; while (i > 0 || held > 0) { i--; } }"},
        {"8", "private void f() { int i = 5; do { held = 1; } while (i > 0); }"},
        {"10", "private int f(int a, int b, int c, int d, int e, int g, int h, int i) { return 0; }"},
        {"10", "private int f(int a) { return a; } private int g(int a) { return f(1 + f(a)); }"},
        {"10", "private int f() {" + "\n".repeat(60) + "return 0; }"},
        {"10", "private int a() { return b(); } private int b() { return c(); } private int c() { return d(); }"
            + "private int d() { return e(); } private int e() { return f(); } private int f() { return g(); }"
            + "private int g() { return 0; }"},
    };

    /** Members that break no rule. */
    private static final String[] FINE = {
        "private int f(int[] g) { return g.length; } private int h() { return f(list); }",
        "private int f(long x) { return (int) (x >>> 3) & (MOST - 1); }",
        "private int f(int x) { return x / MOST % (MOST * 2); }",
        "private void f() { int i = 5; while (i > 0 && list[0] > 2) { list[0] = list[1]; i--; } }",
        "private void f() { int i = 0; do { held = i; i++; } while (i < 5); }",
        "private int f(int x) { switch (x) { case 1: return 2; default: return 3; } }",
        "private int f() { int s = 0; for (int v : list) { s += v; } return s; }",
        "private int a() { return b(); } private int b() { return c(); } private int c() { return d(); }"
            + "private int d() { return e(); } private int e() { return f(); } private int f() { return 0; }",
        "private int f(int a, int b, int c, int d, int e, int g, int h) { return 0; }",
    };

    private RulesTest() {
    }

    public static void main(String[] args) throws IOException {
        Due.yes("the first form keeps to the rules", Rules.broken(KEPT).isEmpty());
        for (String members : FINE) {
            Set<String> found = Rules.broken(KEPT.replace("// here", members));
            Due.yes("no breach in: " + members + ": " + found, found.isEmpty());
        }
        for (String[] breach : BREACHES) {
            sees(breach[0], breach[1], KEPT.replace("// here", breach[1]));
        }
        sees("1", "a package line", "package x; " + KEPT);
        sees("1", "a second class", KEPT + "class Other { }");
        sees("1", "not final", KEPT.replace("final class", "class"));
        sees("3", "an import", "import java.util.List; " + KEPT);
        sees("3", "a class above it", KEPT.replace("Index {", "Index extends Thread {"));
        sees("4", "an array made twice", KEPT.replace("final int[]", "int[]").replace("held = 0;", "list = new int[3];"));
        sees("4", "a call in the constructor", KEPT.replace("held = 0;", "held = size();"));
        sees("10", "42 fields", KEPT.replace("// here", manyFields()));
        for (String breach : Rules.broken(Files.readString(Path.of("src/main/java/GridFileIndex.java")))) {
            Due.yes("the class keeps to LANGUAGE.md: " + breach, false);
        }
        Due.finish();
    }

    private static String manyFields() {
        return IntStream.range(0, 40).mapToObj(i -> "private int f" + i + ";").collect(Collectors.joining());
    }

    private static void sees(String rule, String what, String source) throws IOException {
        Set<String> found = Rules.broken(source);
        boolean seen = found.stream().anyMatch(b -> b.startsWith("rule " + rule + ": "));
        boolean compiles = found.stream().noneMatch(b -> b.startsWith("does not compile"));
        Due.yes("a breach of rule " + rule + " is seen in: " + what + ": " + found, seen && compiles);
    }
}
