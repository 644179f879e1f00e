import java.io.IOException;
import java.lang.reflect.Method;
import java.lang.reflect.Modifier;
import java.nio.charset.StandardCharsets;
import java.nio.file.Files;
import java.nio.file.Path;
import java.util.ArrayList;
import java.util.List;
import java.util.stream.Stream;

/** Does what README.md says, as it is written there: in a folder of its own, with the same files. */
public final class ReadmeTest {
    private static final Path SHARED = Path.of("../shared/tests");

    /** Which tests are shared is not ours to say: without this one the command has nothing to show. */
    private static final String SHARED_TEST = "StavehouseRuns";
    private static final Check CHECK = new Check();

    /** The blocks of a kind, such as java, each as its lines. */
    private static List<List<String>> blocks(List<String> lines, String kind) {
        List<List<String>> found = new ArrayList<>();
        List<String> block = null;
        for (String line : lines) {
            if (block == null && line.equals("```" + kind)) {
                block = new ArrayList<>();
            } else if (block != null && line.equals("```")) {
                found.add(block);
                block = null;
            } else if (block != null) {
                block.add(line);
            }
        }
        return found;
    }

    private static void copyFolder(Path from, Path to) throws IOException {
        Files.createDirectories(to);
        try (Stream<Path> files = Files.list(from)) {
            for (Path file : files.filter(Files::isRegularFile).toList()) {
                Files.copy(file, to.resolve(file.getFileName()));
            }
        }
    }

    private static void remove(Path folder) throws IOException {
        try (Stream<Path> all = Files.walk(folder)) {
            for (Path each : all.sorted((one, other) -> other.compareTo(one)).toList()) {
                Files.delete(each);
            }
        }
    }

    /** What the commands print; each of them must end well. */
    private static String outputOf(Path folder, List<String> commands) throws IOException, InterruptedException {
        Process process = new ProcessBuilder("bash", "-e", "-c", String.join("\n", commands))
                .directory(folder.toFile()).redirectErrorStream(true).start();
        process.getOutputStream().close();
        String output = new String(process.getInputStream().readAllBytes(), StandardCharsets.UTF_8);
        CHECK.same(String.join("; ", commands) + " ends well", process.waitFor() == 0 ? "yes" : "no: " + output, "yes");
        return output;
    }

    private static void example(List<String> lines, Path folder) throws IOException, InterruptedException {
        List<List<String>> programs = blocks(lines, "java");
        List<List<String>> outputs = blocks(lines, "text");
        CHECK.due("programs in README.md", programs.size(), 1);
        CHECK.due("outputs in README.md", outputs.size(), 1);
        Files.write(folder.resolve("Example.java"), programs.get(0));
        List<List<String>> commands = blocks(lines, "sh");
        CHECK.due("commands in README.md", commands.size(), 4);
        CHECK.same("the example", outputOf(folder, commands.get(0)).strip(), String.join("\n", outputs.get(0)));
        CHECK.same("all tests", commands.get(1).toString(), "[.ci/run]");
        CHECK.same(".ci/run can be run", Files.isExecutable(Path.of(".ci/run")) ? "yes" : "no", "yes");
        CHECK.same("a single test", outputOf(folder, commands.get(2)).contains(", 0 not as due") ? "yes" : "no", "yes");
        CHECK.same("a shared test", commands.get(3).get(1), "java -cp build " + SHARED_TEST);
        if (Files.exists(SHARED.resolve(SHARED_TEST + ".java"))) {
            outputOf(folder, commands.get(3));
        }
    }

    /** The table has each call of the face, with as many arguments as it takes. */
    private static void table(List<String> lines) {
        String calls = String.join("\n", lines.stream().filter(line -> line.startsWith("| `")).toList());
        for (Method method : Stavehouse.class.getDeclaredMethods()) {
            if (Modifier.isPublic(method.getModifiers())) {
                int commas = method.getParameterCount() - 1;
                String arguments = commas < 0 ? "" : "[a-z]+" + "(, [a-z]+)".repeat(commas);
                boolean is = calls.matches("(?s).*`" + method.getName() + "\\(" + arguments + "\\)`.*");
                CHECK.same(method.getName() + " stands in the table", is ? "yes" : "no", "yes");
            }
        }
    }

    /** Each test that it names is there, and it names each one that is there. */
    private static void names(String text) throws IOException {
        try (Stream<Path> files = Files.list(Path.of("src/test/java"))) {
            for (Path file : files.sorted().toList()) {
                String name = file.getFileName().toString().replace(".java", "");
                CHECK.same("README.md names " + name, text.contains("`" + name + "`") ? "yes" : "no", "yes");
            }
        }
        for (String word : text.split("`")) {
            if (word.matches("[A-Z][A-Za-z]*Test")) {
                CHECK.same(word + " is there", Files.exists(Path.of("src/test/java/" + word + ".java")) ? "yes" : "no", "yes");
            }
        }
    }

    public static void main(String[] args) throws IOException, InterruptedException {
        List<String> lines = Files.readAllLines(Path.of("README.md"));
        table(lines);
        names(String.join("\n", lines));
        Path all = Files.createTempDirectory("readme");
        try {
            copyFolder(Path.of("src/main/java"), all.resolve("project/src/main/java"));
            copyFolder(Path.of("src/test/java"), all.resolve("project/src/test/java"));
            copyFolder(SHARED, all.resolve("shared/tests"));
            example(lines, all.resolve("project"));
        } finally {
            remove(all);
        }
        CHECK.end("ReadmeTest");
    }
}
