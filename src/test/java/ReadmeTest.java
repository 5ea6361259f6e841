import java.io.IOException;
import java.lang.reflect.Field;
import java.lang.reflect.Method;
import java.lang.reflect.Modifier;
import java.nio.file.Files;
import java.nio.file.Path;
import java.util.ArrayList;
import java.util.Comparator;
import java.util.List;
import java.util.TreeSet;
import java.util.regex.Matcher;
import java.util.regex.Pattern;
import java.util.stream.Stream;

/** What README.md says of using the class and of running its tests holds as it stands there. */
public final class ReadmeTest {
    private static final Check CHECK = new Check("ReadmeTest");
    /** A copy, so that the commands don't meddle with the classes that run here. */
    private static final Path COPY = Path.of("build", "readme");

    public static void main(String[] args) throws IOException, InterruptedException {
        String readme = Files.readString(Path.of("README.md"));
        copySources();
        exampleRuns(readme);
        testsRun(readme);
        everyTestIsNamed(readme);
        everyCallIsNamed(readme);
        CHECK.end();
    }

    private static void copySources() throws IOException {
        if (Files.exists(COPY)) {
            for (Path old : walk(COPY, Comparator.reverseOrder())) {
                Files.delete(old);
            }
        }
        for (Path file : walk(Path.of("src"), Comparator.naturalOrder())) {
            if (Files.isRegularFile(file)) {
                Files.createDirectories(COPY.resolve(file).getParent());
                Files.copy(file, COPY.resolve(file));
            }
        }
    }

    private static List<Path> walk(Path from, Comparator<Path> order) throws IOException {
        try (Stream<Path> all = Files.walk(from)) {
            return all.sorted(order).toList();
        }
    }

    private static void exampleRuns(String readme) throws IOException, InterruptedException {
        CHECK.sentence("README.md: Use");
        Files.writeString(COPY.resolve("Example.java"), block(readme, "java", 0));
        CHECK.due("what the example prints", run(block(readme, "sh", 0)), block(readme, "text", 0) + "exit code 0");
    }

    private static void testsRun(String readme) throws IOException, InterruptedException {
        CHECK.sentence("README.md: Tests");
        String script = block(readme, "sh", 1).strip();
        CHECK.due("the script", script, ".ci/run");
        CHECK.due(script + " can be run", Files.isExecutable(Path.of(script)), true);
        String said = run(block(readme, "sh", 2));
        CHECK.due("running tests alone: " + said, said.endsWith("exit code 0"), true);
    }

    private static String run(String commands) throws IOException, InterruptedException {
        Process process = new ProcessBuilder("sh", "-e", "-c", commands)
            .directory(COPY.toFile()).redirectErrorStream(true).start();
        String said = new String(process.getInputStream().readAllBytes());
        return said + "exit code " + process.waitFor();
    }

    private static void everyTestIsNamed(String readme) throws IOException {
        CHECK.sentence("README.md: Tests");
        TreeSet<String> there = new TreeSet<>();
        for (Path file : walk(Path.of("src", "test", "java"), Comparator.naturalOrder())) {
            String name = file.getFileName().toString();
            if (name.endsWith("Test.java")) {
                there.add(name.substring(0, name.length() - ".java".length()));
            }
        }
        CHECK.due("the tests", firstCells(readme, "\\w+Test").toString(), there.toString());
    }

    private static void everyCallIsNamed(String readme) {
        CHECK.sentence("README.md: The calls, What can be wrong");
        TreeSet<String> calls = new TreeSet<>();
        for (Method method : TuneSetter.class.getDeclaredMethods()) {
            if (Modifier.isPublic(method.getModifiers())) {
                calls.add(method.getName() + "/" + method.getParameterCount());
            }
        }
        TreeSet<String> named = new TreeSet<>();
        for (String call : firstCells(readme, "\\w+\\([\\w, ]*\\)")) {
            int open = call.indexOf('(');
            String inside = call.substring(open + 1, call.length() - 1);
            named.add(call.substring(0, open) + "/" + (inside.isEmpty() ? 0 : inside.split(",").length));
        }
        CHECK.due("the calls", named.toString(), calls.toString());
        TreeSet<String> faults = new TreeSet<>();
        for (Field field : TuneSetter.class.getFields()) {
            if (!field.getName().equals("BAD")) {
                faults.add(field.getName());
            }
        }
        CHECK.due("the faults", firstCells(readme, "[A-Z]+").toString(), faults.toString());
    }

    /** What stands as code in the first cells of tables, where it has this form. */
    private static TreeSet<String> firstCells(String readme, String form) {
        TreeSet<String> found = new TreeSet<>();
        Matcher matcher = Pattern.compile("(?m)^\\| `(" + form + ")` \\|").matcher(readme);
        while (matcher.find()) {
            found.add(matcher.group(1));
        }
        return found;
    }

    private static String block(String readme, String language, int which) {
        List<String> found = new ArrayList<>();
        Matcher matcher = Pattern.compile("(?ms)^```" + language + "\\n(.*?)^```$").matcher(readme);
        while (matcher.find()) {
            found.add(matcher.group(1));
        }
        CHECK.due("README.md has a block of " + language + " numbered " + which, which < found.size(), true);
        return which < found.size() ? found.get(which) : "";
    }
}
