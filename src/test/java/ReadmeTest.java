import java.io.IOException;
import java.lang.reflect.Method;
import java.lang.reflect.Modifier;
import java.nio.file.Files;
import java.nio.file.Path;
import java.util.ArrayList;
import java.util.Comparator;
import java.util.List;
import java.util.TreeSet;
import java.util.stream.Stream;

/** README.md: its commands work as they are written, and it names all that the face has. */
public final class ReadmeTest {
    private static final Check CHECK = new Check("ReadmeTest");
    private static final String ALL_TESTS = ".ci/run\n";

    public static void main(String[] args) throws Exception {
        String readme = Files.readString(Path.of("README.md"));
        everyCallHasItsRow(readme);
        theExampleIsTheFile(readme);
        allTestsAreRunByOneCommand(readme);
        everyCommandWorks(readme);
        everyTestIsNamed(readme);
        CHECK.end();
    }

    private static List<String> blocks(String readme, String language) {
        List<String> found = new ArrayList<>();
        String open = "```" + language + "\n";
        int at = readme.indexOf(open);
        while (at >= 0) {
            int end = readme.indexOf("```", at + open.length());
            found.add(readme.substring(at + open.length(), end));
            at = readme.indexOf(open, end);
        }
        return found;
    }

    private static void everyCallHasItsRow(String readme) {
        int calls = 0;
        for (Method method : SharedUplink.class.getDeclaredMethods()) {
            if (Modifier.isPublic(method.getModifiers())) {
                calls++;
                CHECK.equal("what the row of " + method.getName() + " throws",
                        thrownBy(method), thrownByRow(rowOf(readme, method)));
            }
        }
        CHECK.equal("calls", 13, calls);
        CHECK.equal("row of the constructor", 1,
                readme.contains("\n| `new SharedUplink()` |") ? 1 : 0);
        CHECK.equal("NONE", 1, readme.contains("`SharedUplink.NONE` is -1") ? 1 : 0);
    }

    private static String thrownBy(Method method) {
        TreeSet<String> names = new TreeSet<>();
        for (Class<?> type : method.getExceptionTypes()) {
            names.add(type.getSimpleName());
        }
        return names.toString();
    }

    private static String thrownByRow(String row) {
        TreeSet<String> names = new TreeSet<>();
        for (String name : List.of("IllegalArgumentException", "IllegalStateException")) {
            if (row.contains("`" + name + "`: ")) {
                names.add(name);
            }
        }
        return row.endsWith("| nothing |") || !names.isEmpty() ? names.toString() : "no row";
    }

    /** The row with as many arguments as the call has. */
    private static String rowOf(String readme, Method method) {
        for (String line : readme.split("\n")) {
            String start = "| `" + method.getName() + "(";
            if (line.startsWith(start)) {
                String inside = line.substring(start.length(), line.indexOf(')'));
                int count = inside.isEmpty() ? 0 : inside.split(", ").length;
                return count == method.getParameterCount() ? line : "";
            }
        }
        return "";
    }

    private static void theExampleIsTheFile(String readme) throws IOException {
        List<String> found = blocks(readme, "java");
        CHECK.equal("examples", 1, found.size());
        CHECK.equal("the example", Files.readString(Path.of("example/Example.java")), found.get(0));
    }

    private static void allTestsAreRunByOneCommand(String readme) {
        CHECK.equal("named", 1, blocks(readme, "sh").contains(ALL_TESTS) ? 1 : 0);
        CHECK.equal("executable", 1, Files.isExecutable(Path.of(".ci/run")) ? 1 : 0);
    }

    /** All but .ci/run, which is what runs this test. */
    private static void everyCommandWorks(String readme) throws Exception {
        Path room = Files.createTempDirectory("readme");
        try {
            Path folder = copyOfTheProject(room);
            int examples = 0;
            for (String commands : blocks(readme, "sh")) {
                if (!commands.equals(ALL_TESTS)) {
                    String printed = run(folder, commands);
                    if (commands.contains("example/Example.java")) {
                        examples++;
                        CHECK.equal("what it prints", blocks(readme, "text").get(0), printed);
                    }
                }
            }
            CHECK.equal("commands of the example", 1, examples);
        } finally {
            remove(room);
        }
    }

    /** So that the commands leave nothing in the project's own folder. */
    private static Path copyOfTheProject(Path room) throws IOException {
        Path folder = Files.createDirectory(room.resolve("main"));
        for (String name : List.of("src", "example")) {
            Files.createSymbolicLink(folder.resolve(name), Path.of(name).toRealPath());
        }
        Files.createSymbolicLink(room.resolve("shared"), Path.of("../shared").toRealPath());
        return folder;
    }

    private static String run(Path folder, String commands) throws Exception {
        Process process = new ProcessBuilder("bash", "-e", "-c", commands)
                .directory(folder.toFile())
                .redirectError(ProcessBuilder.Redirect.INHERIT).start();
        process.getOutputStream().close();
        String printed = new String(process.getInputStream().readAllBytes());
        int status = process.waitFor();
        CHECK.equal("exit code of\n" + commands + printed, 0, status);
        return printed;
    }

    private static void remove(Path room) throws IOException {
        try (Stream<Path> all = Files.walk(room)) {
            for (Path path : all.sorted(Comparator.reverseOrder()).toList()) {
                Files.delete(path);
            }
        }
    }

    private static void everyTestIsNamed(String readme) throws IOException {
        try (Stream<Path> files = Files.list(Path.of("src/test/java"))) {
            for (Path file : files.toList()) {
                String name = file.getFileName().toString().replace(".java", "");
                if (name.endsWith("Test")) {
                    CHECK.equal(name + " is named", 1, readme.contains("`" + name + "`") ? 1 : 0);
                }
            }
        }
    }
}
