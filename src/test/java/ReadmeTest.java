import java.io.IOException;
import java.lang.reflect.Method;
import java.lang.reflect.Modifier;
import java.nio.file.Files;
import java.nio.file.Path;
import java.util.ArrayList;
import java.util.Comparator;
import java.util.List;
import java.util.Set;
import java.util.TreeSet;
import java.util.regex.Matcher;
import java.util.regex.Pattern;
import java.util.stream.Stream;

/** Does what README.md says, word for word, on a copy of the project, and looks for what it promises. */
public final class ReadmeTest {
    private static final Pattern BLOCK = Pattern.compile("(?s)```(\\w+)\n(.*?)```");
    private static final Pattern CALL = Pattern.compile("(?m)^\\| `(\\w+)\\(([^)]*)\\)` \\|");
    private static final Check check = new Check();

    private final String page;
    private final Path project;

    private ReadmeTest(String page, Path project) {
        this.page = page;
        this.project = project;
    }

    public static void main(String[] args) throws IOException, InterruptedException {
        Path top = Files.createTempDirectory("readme");
        try {
            ReadmeTest test = new ReadmeTest(Files.readString(Path.of("README.md")), top);
            copy(Path.of("src"), test.project.resolve("src"));
            test.example();
            test.tests();
            test.table();
        } finally {
            remove(top);
        }
        check.end();
    }

    private void example() throws IOException, InterruptedException {
        List<String> commands = blocks("sh");
        check.due("commands told ahead of and behind .ci/run", commands.size(), 4);
        run(commands.get(0));
        Files.writeString(project.resolve(placeOfExample()), blocks("java").get(0));
        check.holds("the example prints what the page says",
            run(commands.get(1)).equals(blocks("text").get(0)));
    }

    private void tests() throws IOException, InterruptedException {
        List<String> commands = blocks("sh");
        // Run here it would come to this test again.
        check.holds("the script that the page names", Files.isExecutable(Path.of(commands.get(2).trim())));
        run(commands.get(3));
        try (Stream<Path> files = Files.list(Path.of("src/test/java"))) {
            for (Path file : (Iterable<Path>) files::iterator) {
                String name = file.getFileName().toString().replace(".java", "");
                check.holds("the page names " + name, !name.endsWith("Test") || page.contains("`" + name + "`"));
            }
        }
    }

    private void table() {
        Set<String> told = new TreeSet<>();
        Matcher m = CALL.matcher(page);
        while (m.find()) {
            told.add(m.group(1) + " " + (m.group(2).isEmpty() ? 0 : m.group(2).split(",").length));
        }
        Set<String> due = new TreeSet<>();
        for (Method method : SlipStore.class.getDeclaredMethods()) {
            if (Modifier.isPublic(method.getModifiers())) {
                due.add(method.getName() + " " + method.getParameterCount());
            }
        }
        check.holds("the table has the calls of the class: " + told, told.equals(due));
        check.holds("NONE", page.contains("`NONE` (" + SlipStore.NONE + ")"));
        check.holds("BAD", page.contains("`BAD` (" + SlipStore.BAD + ","));
        check.holds("NO", page.contains("`NO` (" + SlipStore.NO + ","));
        check.holds("FULL", page.contains("`FULL` (" + SlipStore.FULL + ","));
    }

    private List<String> blocks(String kind) {
        List<String> found = new ArrayList<>();
        Matcher m = BLOCK.matcher(page);
        while (m.find()) {
            if (m.group(1).equals(kind)) {
                found.add(m.group(2));
            }
        }
        return found;
    }

    private String placeOfExample() {
        Matcher m = Pattern.compile("Write this to `([^`]+)`").matcher(page);
        check.holds("the page says where the example goes", m.find());
        return m.group(1);
    }

    private String run(String commands) throws IOException, InterruptedException {
        Process process = new ProcessBuilder("sh", "-e", "-c", commands)
            .directory(project.toFile()).redirectErrorStream(true).start();
        String said = new String(process.getInputStream().readAllBytes());
        check.due(commands + " said " + said + " and", process.waitFor(), 0);
        return said;
    }

    private static void copy(Path from, Path to) throws IOException {
        try (Stream<Path> files = Files.walk(from)) {
            for (Path file : (Iterable<Path>) files::iterator) {
                Path copy = to.resolve(from.relativize(file).toString());
                Files.createDirectories(copy.getParent());
                if (Files.isRegularFile(file)) {
                    Files.copy(file, copy);
                }
            }
        }
    }

    private static void remove(Path top) throws IOException {
        try (Stream<Path> files = Files.walk(top)) {
            for (Path file : (Iterable<Path>) files.sorted(Comparator.reverseOrder())::iterator) {
                Files.delete(file);
            }
        }
    }
}
