import java.io.IOException;
import java.lang.reflect.Constructor;
import java.lang.reflect.Field;
import java.lang.reflect.Method;
import java.lang.reflect.Modifier;
import java.nio.file.Files;
import java.nio.file.Path;
import java.util.HashSet;
import java.util.Set;
import java.util.TreeSet;
import java.util.regex.Pattern;

/** The document's face and no more, and what a reader of the source can see of LANGUAGE.md. */
public final class FaceTest {
    private static final Path SOURCE = Path.of("src/main/java/SlipStore.java");
    private static final Set<String> METHODS = new TreeSet<>(Set.of(
        "int node(int,int)", "int link(int,int,int)", "int owns(int,int,int)", "int turns(int)",
        "int sets(int,int)", "int clears(int)", "int looks(int)", "int ticks(int)", "int of(int,int)",
        "int offers(int,int)", "int would(int)", "int chain(int,int)", "int ring(int)", "int settles()",
        "int about(int,int)", "int till(int)", "int count(int)", "int type(int)", "int clear()", "int does()",
        "int back()", "int told(int)", "long digest()"));
    private static final Set<String> CONSTANTS = new TreeSet<>(Set.of("NONE", "BAD", "NO", "FULL"));
    private static final String[] FORBIDDEN = {
        "\\b(try|catch|throw|throws|synchronized|assert|import|package|new Object|lambda|var)\\b", "->", "::",
        "\\w+Exact\\b", "\\bSystem\\.(?!arraycopy)", "\\b(Thread|Random|Runtime|Class|Object|HashMap)\\b", "\"",
    };
    private static final Check check = new Check();

    public static void main(String[] args) throws IOException {
        face();
        classesInside();
        source();
        check.due("NONE", SlipStore.NONE, -1001);
        check.due("BAD", SlipStore.BAD, -1002);
        check.due("NO", SlipStore.NO, -1003);
        check.due("FULL", SlipStore.FULL, -1004);
        check.end();
    }

    private static void face() {
        check.holds("public and final", SlipStore.class.getModifiers() == (Modifier.PUBLIC | Modifier.FINAL));
        Set<String> seen = new TreeSet<>();
        for (Method m : SlipStore.class.getDeclaredMethods()) {
            if (!Modifier.isPrivate(m.getModifiers())) {
                check.holds(m + " is public and no more", m.getModifiers() == Modifier.PUBLIC);
                seen.add(signature(m));
            }
        }
        check.holds("the methods are those of the document: " + seen, seen.equals(METHODS));
        Set<String> constants = new TreeSet<>();
        for (Field f : SlipStore.class.getDeclaredFields()) {
            if (!Modifier.isPrivate(f.getModifiers())) {
                constants.add(f.getName());
                check.holds(f + " is an int", f.getType() == int.class);
            }
            boolean isFinal = Modifier.isFinal(f.getModifiers());
            check.holds(f + " is no state of the class", isFinal || !Modifier.isStatic(f.getModifiers()));
        }
        check.holds("the constants are those of the document: " + constants, constants.equals(CONSTANTS));
        Constructor<?>[] made = SlipStore.class.getDeclaredConstructors();
        check.holds("one constructor", made.length == 1 && made[0].getParameterCount() == 0
            && made[0].getModifiers() == Modifier.PUBLIC);
    }

    private static String signature(Method m) {
        StringBuilder b = new StringBuilder(m.getReturnType() + " " + m.getName() + "(");
        for (Class<?> c : m.getParameterTypes()) {
            b.append(b.charAt(b.length() - 1) == '(' ? "" : ",").append(c);
        }
        return b.append(")").toString();
    }

    private static void classesInside() {
        Set<String> names = new HashSet<>();
        for (String m : METHODS) {
            names.add(m.substring(m.indexOf(' ') + 1, m.indexOf('(')));
        }
        for (Class<?> c : SlipStore.class.getDeclaredClasses()) {
            check.holds(c + " is static", Modifier.isStatic(c.getModifiers()));
            check.holds(c + " is not public", !Modifier.isPublic(c.getModifiers()));
            for (Method m : c.getDeclaredMethods()) {
                check.holds(m + " bears no public name", !names.contains(m.getName()));
                check.holds(m + " has seven parameters at most", m.getParameterCount() <= 7);
            }
        }
        for (Method m : SlipStore.class.getDeclaredMethods()) {
            boolean isPrivate = Modifier.isPrivate(m.getModifiers());
            check.holds(m + " bears no public name", !isPrivate || !names.contains(m.getName()));
        }
    }

    private static void source() throws IOException {
        String code = Files.readString(SOURCE).replaceAll("(?s)/\\*.*?\\*/", "").replaceAll("//[^\n]*", "");
        for (String forbidden : FORBIDDEN) {
            check.holds("no " + forbidden, !Pattern.compile(forbidden).matcher(code).find());
        }
    }
}
