import java.io.IOException;
import java.io.InputStream;
import java.lang.reflect.Method;
import java.lang.reflect.Modifier;
import java.nio.charset.StandardCharsets;
import java.nio.file.Files;
import java.nio.file.LinkOption;
import java.nio.file.Path;
import java.util.ArrayList;
import java.util.Arrays;
import java.util.List;
import java.util.TreeSet;

/** README.md, read from the project's root: its commands run as they stand there, and what it tells is so. */
public final class ReadmeTest {
    private static final Check CHECK = new Check("ReadmeTest");
    private static final String ALL_TESTS = ".ci/run\n";

    private final String text;

    private ReadmeTest(String text) {
        this.text = text;
    }

    public static void main(String[] args) throws IOException, InterruptedException {
        ReadmeTest readme = new ReadmeTest(Files.readString(Path.of("README.md")));
        readme.showsTheExample();
        readme.namesTheFace();
        readme.namesTheTests();
        readme.commandsRun();
        CHECK.end();
    }

    private void showsTheExample() throws IOException {
        CHECK.sentence("README.md", "The example is src/example/java/Example.java");
        CHECK.same("the blocks of Java", blocks("java").toString(),
                List.of(Files.readString(Path.of("src/example/java/Example.java"))).toString());
    }

    private void namesTheFace() {
        CHECK.sentence("README.md", "The calls");
        for (Method method : StratumLedge.class.getDeclaredMethods()) {
            if (Modifier.isPublic(method.getModifiers())) {
                String name = method.getName();
                CHECK.same(name, text.contains("`" + name + "`") || text.contains("`" + name + "("), true);
            }
        }
    }

    private void namesTheTests() throws IOException {
        CHECK.sentence("README.md", "runs every test under src/test/java");
        TreeSet<String> named = new TreeSet<>();
        for (String line : text.split("\n")) {
            if (line.startsWith("| `") && Files.exists(Path.of("src/test/java", line.split("`")[1] + ".java"))) {
                named.add(line.split("`")[1]);
            }
        }
        TreeSet<String> tests = new TreeSet<>();
        try (var files = Files.list(Path.of("src/test/java"))) {
            files.forEach(file -> tests.add(file.getFileName().toString().replace(".java", "")));
        }
        tests.removeAll(List.of("Check", "Model"));
        CHECK.same("the tests", named.toString(), tests.toString());
    }

    private void commandsRun() throws IOException, InterruptedException {
        CHECK.sentence("README.md", "All commands below are for this directory");
        Path root = likeness();
        List<String> told = new ArrayList<>();
        for (String commands : blocks("sh")) {
            // This test is run by that command: to run it from here would never end.
            if (commands.equals(ALL_TESTS)) {
                CHECK.same(ALL_TESTS.trim() + " can be run", Files.isExecutable(Path.of(ALL_TESTS.trim())), true);
            } else {
                told.add(run(commands, root));
            }
        }
        CHECK.same("the blocks of commands beside it", told.size(), 3);
        CHECK.same("what the example prints", told.subList(0, 1), blocks("text"));
        remove(root.getParent());
    }

    /** A directory that looks like the project's root, so that what the commands make does not stay in the root. */
    private static Path likeness() throws IOException {
        Path above = Files.createTempDirectory("readme");
        Path root = Files.createDirectory(above.resolve("project"));
        Files.createSymbolicLink(above.resolve("shared"), Path.of("../shared").toRealPath());
        Files.createSymbolicLink(root.resolve("src"), Path.of("src").toRealPath());
        return root;
    }

    private static void remove(Path path) throws IOException {
        if (Files.isDirectory(path, LinkOption.NOFOLLOW_LINKS)) {
            List<Path> inside = new ArrayList<>();
            try (var files = Files.list(path)) {
                files.forEach(inside::add);
            }
            for (Path file : inside) {
                remove(file);
            }
        }
        Files.delete(path);
    }

    /** Runs a block of commands, which ends well; answers what it printed. */
    private static String run(String commands, Path root) throws IOException, InterruptedException {
        Process process = new ProcessBuilder(Arrays.asList("sh", "-e", "-c", commands)).directory(root.toFile())
                .redirectErrorStream(true).start();
        String printed;
        try (InputStream stream = process.getInputStream()) {
            printed = new String(stream.readAllBytes(), StandardCharsets.UTF_8);
        }
        CHECK.same("the exit code of\n" + commands + printed, process.waitFor(), 0);
        return printed;
    }

    /** The fenced blocks of a language. */
    private List<String> blocks(String language) {
        List<String> found = new ArrayList<>();
        String fence = "```" + language + "\n";
        for (int at = text.indexOf(fence); at >= 0; at = text.indexOf(fence, at + 1)) {
            int start = at + fence.length();
            found.add(text.substring(start, text.indexOf("```", start)));
        }
        return found;
    }
}
