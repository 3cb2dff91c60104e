import java.io.IOException;
import java.nio.file.Files;
import java.nio.file.Path;
import java.util.List;

/** The class keeps to what can be read of LANGUAGE.md; and Rules does see what is outside it. */
public final class RulesTest {
    private static final Path SOURCE = Path.of("src/main/java/SlipStore.java");
    private static final Check check = new Check();

    public static void main(String[] args) throws IOException {
        List<String> faults = Rules.faultsOf(Files.readString(SOURCE));
        check.holds("the class keeps to LANGUAGE.md, but: " + faults, faults.isEmpty());
        samples();
        depth();
        check.end();
    }

    private static void samples() throws IOException {
        keeps("int a() { return Math.min(1, 2); }");
        keeps("private final int[] row = new int[3]; int a() { return row.length; }");
        keeps("private static final int[] ROW = {1, 2};");
        breaks("rule 4", "int a() { return Math.addExact(1, 2); }");
        breaks("rule 4", "int a() { return \"a\".hashCode(); }");
        breaks("rule 12", "int a() { int[] row = new int[3]; return row.length; }");
        breaks("rule 12", "int a() { int[] row = {1, 2}; return row.length; }");
        breaks("rule 12", "static final class B { } B a() { return new B(); }");
        breaks("rule 5", "private static int a = 1;");
        breaks("rule 5", "private static final double A = 1;");
        breaks("rule 5", "static { }");
        breaks("rule 6", "int a() { assert true; return 1; }");
        breaks("rule 6", "int a() { try { return 1; } finally { } }");
        breaks("rule 6", "int a(RuntimeException e) { throw e; }");
        breaks("rule 6", "int a() { synchronized (this) { return 1; } }");
        breaks("rule 2", "interface B { int b(); } int a() { B b = () -> 1; return b == null ? 0 : 1; }");
        breaks("rule 2", "interface B { int b(); } int c() { return 1; } int a() { B b = this::c; return 1; }");
        breaks("rule 2", "final class B { }");
        breaks("rule 2", "int a() { final class B { } return 1; }");
        breaks("rule 8", "int a(int n) { return n < 1 ? 1 : a(n - 1); }");
        breaks("rule 8", "int a(int n) { return n < 1 ? 1 : b(n - 1); } int b(int n) { return a(n); }");
        breaks("rule 10", "String a(String b) { return b + 1; }");
        breaks("rule 11", "int a(int b, int c, int d, int e, int f, int g, int h, int i) { return 1; }");
        breaks("rule 11", "int a() {" + "\n".repeat(60) + "return 1; }");
        keeps("int a() {" + "\n".repeat(59) + "return 1; }");
        breaks("can't be compiled", "int a() { return b; }");
    }

    private static void depth() throws IOException {
        keeps(ladder(8));
        breaks("rule 11", ladder(9));
    }

    /** Methods of which each calls the next one. */
    private static String ladder(int length) {
        StringBuilder b = new StringBuilder();
        for (int n = 1; n < length; n++) {
            b.append("int a").append(n).append("() { return a").append(n + 1).append("(); }\n");
        }
        return b.append("int a").append(length).append("() { return 1; }").toString();
    }

    private static void keeps(String body) throws IOException {
        List<String> faults = Rules.faultsOf("public final class SlipStore { " + body + " }");
        check.holds(body + " is fine, but: " + faults, faults.isEmpty());
    }

    private static void breaks(String rule, String body) throws IOException {
        List<String> faults = Rules.faultsOf("public final class SlipStore { " + body + " }");
        boolean isSeen = false;
        for (String fault : faults) {
            isSeen = isSeen || fault.contains(rule);
        }
        check.holds(body + " breaks " + rule + ", seen was: " + faults, isSeen);
    }
}
