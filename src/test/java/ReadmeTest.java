import java.io.IOException;
import java.nio.charset.StandardCharsets;
import java.nio.file.Files;
import java.nio.file.Path;
import java.util.ArrayList;
import java.util.Comparator;
import java.util.List;
import java.util.regex.Matcher;
import java.util.regex.Pattern;
import java.util.stream.Collectors;
import java.util.stream.Stream;

/** What README.md says works as it stands there: its commands are run on its program, and the tests it names are all there. */
public final class ReadmeTest {
    private static final Path CLASS = Path.of("src", "main", "java", "TowerOfTurns.java");
    private static int wrong;

    private static void check(boolean so, String what) {
        if (!so) {
            wrong++;
            System.out.println(what);
        }
    }

    /** What stands between the first ``` with this name and the next ```. */
    private static String block(String readme, String name) {
        Matcher m = Pattern.compile("(?ms)^```" + name + "\n(.*?)^```$").matcher(readme);
        check(m.find(), "README.md has no " + name);
        return wrong == 0 ? m.group(1) : "";
    }

    /** The indented lines that begin with javac or java. */
    private static List<String> commands(String readme) {
        return readme.lines().filter(line -> line.matches(" {4}javac? .*")).map(String::trim).collect(Collectors.toList());
    }

    private static String run(Path home, String command) throws IOException, InterruptedException {
        Process process = new ProcessBuilder(command.split(" ")).directory(home.toFile())
            .redirectError(ProcessBuilder.Redirect.INHERIT).start();
        process.getOutputStream().close();
        String out = new String(process.getInputStream().readAllBytes(), StandardCharsets.UTF_8);
        check(process.waitFor() == 0, command + " fails: " + out);
        return out;
    }

    private static void example(Path source, String readme) throws IOException, InterruptedException {
        Path home = Files.createTempDirectory("readme");
        try {
            Files.createDirectories(home.resolve(CLASS).getParent());
            Files.copy(source, home.resolve(CLASS));
            Files.writeString(home.resolve("Example.java"), block(readme, "java"));
            List<String> out = new ArrayList<>();
            for (String command : commands(readme)) {
                out.add(run(home, command));
            }
            check(out.size() == 2, "README.md has " + out.size() + " commands");
            String due = block(readme, "text");
            String printed = String.join("", out).replace("\r\n", "\n");
            check(!due.isEmpty() && due.equals(printed), "the program of README.md prints\n" + printed + "due is\n" + due);
        } finally {
            clear(home);
        }
    }

    private static void clear(Path home) throws IOException {
        try (Stream<Path> all = Files.walk(home)) {
            for (Path path : all.sorted(Comparator.reverseOrder()).collect(Collectors.toList())) {
                Files.delete(path);
            }
        }
    }

    private static void namedTests(Path tests, String readme) throws IOException {
        try (Stream<Path> all = Files.list(tests)) {
            for (Path path : all.collect(Collectors.toList())) {
                String name = path.getFileName().toString().replace(".java", "");
                check(!name.endsWith("Test") || readme.contains("- `" + name + "`"), "README.md doesn't name " + name);
            }
        }
        Matcher m = Pattern.compile("`([A-Za-z]+Test|Counted|Scenes|Model)`").matcher(readme);
        while (m.find()) {
            check(Files.exists(tests.resolve(m.group(1) + ".java")), "there is no " + m.group(1));
        }
    }

    private static void script(Path root, String readme) {
        check(readme.contains("\n    .ci/run\n"), "README.md doesn't say how to run the tests");
        check(Files.isExecutable(root.resolve(".ci").resolve("run")), ".ci/run can't be run");
    }

    public static void main(String[] args) throws IOException, InterruptedException {
        Path source = Path.of(args.length > 0 ? args[0] : CLASS.toString()).toAbsolutePath().normalize();
        Path root = source.getParent().getParent().getParent().getParent();
        String readme = Files.readString(root.resolve("README.md"));
        example(source, readme);
        namedTests(root.resolve(Path.of("src", "test", "java")), readme);
        script(root, readme);
        System.out.println(wrong == 0 ? "what README.md says works" : wrong + " of README.md does not hold");
        if (wrong != 0) {
            System.exit(1);
        }
    }
}
