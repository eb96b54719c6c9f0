import java.io.IOException;
import java.lang.reflect.Method;
import java.lang.reflect.Modifier;
import java.nio.charset.StandardCharsets;
import java.nio.file.Files;
import java.nio.file.Path;
import java.util.ArrayList;
import java.util.Arrays;
import java.util.Comparator;
import java.util.List;
import java.util.stream.Collectors;
import java.util.stream.Stream;

/**
 * What README.md says is so: its example compiles and prints what it says, the commands that it
 * tells run the tests, and .ci/run fails if a test does.
 */
public final class ReadmeTest {
    private static final String PASSES = "System.out.println(\"ran NAME\");";
    private static final String FAILS = "System.out.println(\"ran NAME\"); System.exit(1);";
    private static final String BREAKS = "this is no Java";

    private static int wrong = 0;

    private static void check(boolean holds, String what) {
        if (!holds) {
            wrong++;
            System.out.println("not so: " + what);
        }
    }

    public static void main(String[] args) throws IOException, InterruptedException {
        String readme = read(Path.of("README.md"));
        Path room = Files.createTempDirectory("readme");
        try {
            example(readme, room.resolve("example"));
            commands(readme, room.resolve("commands"));
            namesAll(readme);
            script(room);
        } finally {
            delete(room);
        }
        System.out.println(wrong == 0 ? "README.md is as due" : wrong + " things are not as due");
        if (wrong != 0) {
            System.exit(1);
        }
    }

    // ---- the example

    private static void example(String readme, Path dir) throws IOException, InterruptedException {
        List<String> programs = blocks(readme, "java");
        List<String> prints = blocks(readme, "text");
        check(programs.size() == 1 && prints.size() == 1, "one example, and what it prints");
        if (programs.isEmpty() || prints.isEmpty()) {
            return;
        }
        write(dir.resolve("Example.java"), programs.get(0));
        Files.copy(Path.of("src/main/java/AccusedAsks.java"), dir.resolve("AccusedAsks.java"));
        Run compiled = run(dir, "javac", "-encoding", "UTF-8", "AccusedAsks.java", "Example.java");
        check(compiled.code == 0, "the example compiles: " + compiled.errors);
        Run ran = run(dir, "java", "-cp", ".", "Example");
        check(ran.code == 0 && ran.output.equals(prints.get(0)), "the example prints: " + ran.output + ran.errors);
    }

    // ---- the commands

    /** They run in a copy of the project, so that they leave nothing behind in it. */
    private static void commands(String readme, Path dir) throws IOException, InterruptedException {
        copyTree(Path.of("src"), dir.resolve("src"));
        List<String> lines = new ArrayList<>();
        for (String block : blocks(readme, "sh")) {
            lines.addAll(Arrays.asList(block.split("\n")));
        }
        check(lines.remove(".ci/run"), "README.md tells .ci/run");
        check(Files.isExecutable(Path.of(".ci/run")), ".ci/run can be run");
        check(lines.size() == 2, "one test by itself takes two commands");
        for (String line : lines) {
            Run ran = run(dir, line.split(" "));
            check(ran.code == 0, line + ": " + ran.output + ran.errors);
        }
    }

    private static void namesAll(String readme) throws IOException {
        for (Method method : AccusedAsks.class.getDeclaredMethods()) {
            if (Modifier.isPublic(method.getModifiers())) {
                check(readme.contains("`" + method.getName() + "("), "README.md has " + method);
            }
        }
        try (Stream<Path> tests = Files.list(Path.of("src/test/java"))) {
            for (Path test : tests.collect(Collectors.toList())) {
                String name = test.getFileName().toString().replace(".java", "");
                check(readme.contains("- `" + name + "`:"), "README.md tells of " + name);
            }
        }
    }

    // ---- .ci/run, in small projects whose tests are known to pass or not

    private static void script(Path room) throws IOException, InterruptedException {
        Run fine = runScript(room.resolve("fine"), PASSES, PASSES);
        check(fine.code == 0, ".ci/run passes if all tests do: " + fine.output + fine.errors);
        for (String name : new String[] {"OwnFirst", "OwnSecond", "Shared"}) {
            check(fine.output.contains("ran " + name + "\n"), ".ci/run runs " + name);
        }
        Run ownFails = runScript(room.resolve("own"), FAILS, PASSES);
        check(ownFails.code != 0, ".ci/run fails if a test of the project does");
        check(ownFails.output.contains("ran Shared\n"), ".ci/run goes on behind one that fails");
        Run sharedFails = runScript(room.resolve("shared"), PASSES, FAILS);
        check(sharedFails.code != 0, ".ci/run fails if a shared test does");
        Run breaks = runScript(room.resolve("breaks"), BREAKS, PASSES);
        check(breaks.code != 0, ".ci/run fails if a test does not compile");
        Run without = runScript(room.resolve("without"), PASSES, null);
        check(without.code != 0, ".ci/run fails if ../shared/tests is not there");
    }

    private static Run runScript(Path dir, String own, String shared)
            throws IOException, InterruptedException {
        Path project = dir.resolve("main");
        Path script = project.resolve(".ci/run");
        Files.createDirectories(script.getParent());
        Files.copy(Path.of(".ci/run"), script);
        write(project.resolve("src/main/java/AccusedAsks.java"), "public final class AccusedAsks { }\n");
        writeTest(project.resolve("src/test/java"), "OwnFirst", own);
        writeTest(project.resolve("src/test/java"), "OwnSecond", PASSES);
        if (shared != null) {
            writeTest(dir.resolve("shared/tests"), "Shared", shared);
        }
        return run(dir, script.toAbsolutePath().toString());
    }

    private static void writeTest(Path dir, String name, String body) throws IOException {
        String text = "public final class " + name + " {\n    public static void main(String[] args) {\n"
            + "        new AccusedAsks();\n        " + body.replace("NAME", name) + "\n    }\n}\n";
        write(dir.resolve(name + ".java"), text);
    }

    // ---- pages, files and processes

    /** The texts between "```" with this word behind it and the next "```". */
    private static List<String> blocks(String page, String word) {
        List<String> found = new ArrayList<>();
        StringBuilder block = null;
        boolean wanted = false;
        for (String line : page.split("\n", -1)) {
            if (!line.startsWith("```")) {
                if (block != null) {
                    block.append(line).append('\n');
                }
            } else if (block == null) {
                block = new StringBuilder();
                wanted = line.equals("```" + word);
            } else {
                if (wanted) {
                    found.add(block.toString());
                }
                block = null;
            }
        }
        return found;
    }

    private static final class Run {
        private final int code;
        private final String output;
        private final String errors;

        private Run(int code, String output, String errors) {
            this.code = code;
            this.output = output;
            this.errors = errors;
        }
    }

    private static Run run(Path dir, String... words) throws IOException, InterruptedException {
        // Errors stand apart: the machine may put notices of its own there.
        Path errors = dir.resolve("errors");
        Process process = new ProcessBuilder(words).directory(dir.toFile())
            .redirectError(errors.toFile()).start();
        process.getOutputStream().close();
        String output = new String(process.getInputStream().readAllBytes(), StandardCharsets.UTF_8);
        return new Run(process.waitFor(), output, read(errors));
    }

    private static String read(Path file) throws IOException {
        return new String(Files.readAllBytes(file), StandardCharsets.UTF_8);
    }

    private static void write(Path file, String text) throws IOException {
        Files.createDirectories(file.getParent());
        Files.write(file, text.getBytes(StandardCharsets.UTF_8));
    }

    private static void copyTree(Path from, Path to) throws IOException {
        try (Stream<Path> files = Files.walk(from)) {
            for (Path file : files.filter(Files::isRegularFile).collect(Collectors.toList())) {
                Path copy = to.resolve(from.relativize(file).toString());
                Files.createDirectories(copy.getParent());
                Files.copy(file, copy);
            }
        }
    }

    private static void delete(Path dir) throws IOException {
        try (Stream<Path> files = Files.walk(dir)) {
            for (Path file : files.sorted(Comparator.reverseOrder()).collect(Collectors.toList())) {
                Files.delete(file);
            }
        }
    }
}
