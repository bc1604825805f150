import java.io.IOException;
import java.lang.reflect.Constructor;
import java.lang.reflect.Field;
import java.lang.reflect.Method;
import java.lang.reflect.Modifier;
import java.nio.file.Files;
import java.nio.file.Path;
import java.util.List;
import java.util.Set;
import java.util.TreeSet;
import java.util.regex.Matcher;
import java.util.regex.Pattern;

/** The document's face, and the rules of LANGUAGE.md. */
public final class LanguageTest {
    private static final Path SOURCE = Path.of("src/main/java/PictureClues.java");
    private static final Path DOCUMENT = Path.of("../shared/DOC.md");

    public static void main(String[] args) throws IllegalAccessException {
        Cases.run(LanguageTest.class);
    }

    static void constants() {
        Due.is("NONE", PictureClues.NONE, -1);
        Due.is("BAD", PictureClues.BAD, -2);
        Due.is("STATE", PictureClues.STATE, -3);
        Due.is("WRONG", PictureClues.WRONG, -4);
    }

    /** Rule 1: what is not private is exactly what 'The public face' lists. */
    static void face() throws IOException {
        Set<String> due = new TreeSet<>(Set.of("public PictureClues()", "public static final int NONE",
                "public static final int BAD", "public static final int STATE", "public static final int WRONG"));
        Matcher methods = Pattern.compile("    (public (?:int|long) \\w+\\([^)]*\\));").matcher(Files.readString(DOCUMENT));
        while (methods.find()) {
            due.add(methods.group(1).replaceAll(" \\w+(?=[,)])", "").replace(", ", ","));
        }
        Due.is("members of the document's face", due.size(), 5 + 26);
        Set<String> found = members();
        Due.is("is " + found + " the document's face " + due + "? That", found.equals(due) ? 1 : 0, 1);
        Due.is("public final", PictureClues.class.getModifiers() & (Modifier.PUBLIC | Modifier.FINAL),
                Modifier.PUBLIC | Modifier.FINAL);
    }

    private static Set<String> members() {
        Set<String> open = new TreeSet<>();
        for (Method method : PictureClues.class.getDeclaredMethods()) {
            if (!Modifier.isPrivate(method.getModifiers()) && !method.isSynthetic()) {
                open.add(method.toString().replace("PictureClues.", ""));
            }
        }
        for (Field field : PictureClues.class.getDeclaredFields()) {
            if (!Modifier.isPrivate(field.getModifiers())) {
                open.add(field.toString().replace("PictureClues.", ""));
            }
        }
        for (Constructor<?> constructor : PictureClues.class.getDeclaredConstructors()) {
            if (!Modifier.isPrivate(constructor.getModifiers())) {
                open.add(constructor.toString());
            }
        }
        return open;
    }

    static void theClassKeepsTheRules() throws IOException {
        for (String broken : Rules.brokenIn(Files.readString(SOURCE))) {
            Due.fail(broken);
        }
    }

    // ---- and Rules would see it if the class did not

    private static void broken(int rule, String members) throws IOException {
        String source = "import java.util.*;\npublic final class PictureClues { public void mark() { } " + members + " }";
        // The import itself is one finding, which shows that nothing else is found beside the due one.
        List<String> found = Rules.brokenIn(source);
        long others = found.stream().filter(one -> !one.startsWith("rule 4, line 1:")).count();
        Due.is("findings in " + members, others, rule == 0 ? 0 : 1);
        for (String one : found) {
            boolean due = one.startsWith("rule 4, line 1:") || one.startsWith("rule " + rule + ",");
            Due.is("is '" + one + "' due in " + members + "? That", due ? 1 : 0, 1);
        }
    }

    static void keptRules() throws IOException {
        broken(0, "private static final class A { private final int[] a = new int[3]; int at(int i) { return i / 2; } }");
        broken(0, "private static final char[] C = {'a', 'b'}; private int f() { for (char c : C) { return c; } return 0; }");
        broken(0, "private int f(int[][] a) { int n = 0; for (int i = 0; n >= 0 && i < 9; i++) { n += i % 3; } return n; }");
    }

    static void ruleOne() throws IOException {
        broken(1, "int field;");
        broken(1, "void hidden() { }");
        broken(1, "private void mark(int x) { }");
        broken(1, "private static final class A { private void mark() { } }");
        broken(1, "public static final class A { }");
        broken(1, "} interface B {");
        Due.is("findings of a package line", Rules.brokenIn("package a; public final class PictureClues { }").size(), 1);
    }

    static void ruleTwo() throws IOException {
        broken(2, "private final class A { }");
        broken(2, "private void f() { class A { } }");
        broken(2, "private static class A { } private A a = new A() { };");
        broken(2, "private interface A { int f(); } private static void g(A a) { } private void h() { g(() -> 1); }");
        broken(2, "private interface A { int f(); } private static int one() { return 1; } private static void g(A a) { } "
                + "private void h() { g(PictureClues::one); }");
    }

    static void ruleThree() throws IOException {
        broken(3, "private int[][][] a;");
        broken(3, "private String[] a;");
        broken(3, "private Object a;");
        broken(3, "private HashMap<Integer, Integer> a;");
        broken(3, "private Long f() { return 1L; }");
    }

    static void ruleFour() throws IOException {
        broken(4, "private int f() { return Integer.numberOfTrailingZeros(8); }");
        broken(4, "private int f() { return Math.addExact(1, 2); }");
        broken(4, "private void f() { System.gc(); }");
        broken(4, "private long f() { return System.nanoTime(); }");
        broken(4, "private int f(int[] a) { return Arrays.hashCode(a); }");
        broken(4, "private void f() { new Object(); }");
        broken(4, "private static final class A { } private boolean f(A a, A b) { return a.equals(b); }");
        broken(4, "private static final String S = \"\u00e9\";");
    }

    static void ruleFive() throws IOException {
        broken(5, "private static int a = 1;");
        broken(5, "private static final int[] A = new int[3];");
        broken(5, "static { }");
    }

    static void ruleSix() throws IOException {
        broken(6, "private void f(int[] a) { try { a[0] = 1; } finally { a = null; } }");
        broken(6, "private void f() { throw null; }");
        broken(6, "private void f() throws Exception { }");
        broken(6, "private void f(int a) { assert a > 0; }");
        broken(6, "private void f() { synchronized (this) { } }");
        broken(6, "private boolean f(String a, String b) { return a == b; }");
        broken(6, "private boolean f(Integer a, Integer b) { return a != b; }");
        broken(6, "public int hashCode() { return 1; }");
        broken(6, "private static class A { } private static class B extends A { } private B f(A a) { return (B) a; }");
    }

    static void rulesSevenAndEight() throws IOException {
        broken(7, "private int f(int a) { return 1 / a; }");
        broken(7, "private int f(int a) { a %= a; return a; }");
        broken(8, "private int f(int a) { return f(a); }");
        // Both of them are found.
        Due.is("findings of f and g that call one another", Rules.brokenIn("public final class PictureClues { "
                + "private void f() { g(); } private void g() { f(); } }").size(), 2);
    }

    static void ruleNine() throws IOException {
        broken(9, "private void f() { while (true) { break; } }");
        broken(9, "private void f() { for (int i = 0; ; i++) { break; } }");
        broken(9, "private void f(int a) { while (a != 0) { a &= a - 1; } }");
        broken(9, "private void f(int a) { do { a++; } while (a < 9 || a != 3); }");
        broken(9, "private static int g(int i) { return i + 1; } "
                + "private void f() { for (int i = 0; g(i) < 9; i = g(i)) { g(i); } }");
    }

    static void ruleTen() throws IOException {
        broken(10, "private String f(int a) { return \"a\" + a; }");
        broken(10, "private String f(String a) { a += 1; return a; }");
        broken(10, "private int f(String a) { switch (a) { default: return 1; } }");
    }

    static void ruleEleven() throws IOException {
        broken(11, "private void f(int a, int b, int c, int d, int e, int f, int g, int h) { }");
        broken(11, "private void f() {" + "\n".repeat(60) + "}");
        StringBuilder fields = new StringBuilder();
        for (int i = 0; i < 21; i++) {
            fields.append("private int f").append(i).append("; ");
        }
        broken(11, fields.toString());
        StringBuilder classes = new StringBuilder();
        StringBuilder chain = new StringBuilder("private void f9() { } ");
        for (int i = 0; i < 12; i++) {
            classes.append("private static final class A").append(i).append(" { } ");
        }
        for (int i = 8; i > 0; i--) {
            chain.append("private void f").append(i).append("() { f").append(i + 1).append("(); } ");
        }
        broken(11, classes.toString());
        broken(11, chain.toString());
    }

    static void ruleTwelve() throws IOException {
        broken(12, "private static void f(PictureClues a) { } public PictureClues() { f(this); }");
    }
}
