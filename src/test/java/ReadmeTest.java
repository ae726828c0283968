import java.io.File;
import java.io.IOException;
import java.io.UncheckedIOException;
import java.lang.reflect.Method;
import java.lang.reflect.Modifier;
import java.nio.file.Files;
import java.nio.file.Path;
import java.util.ArrayList;
import java.util.Comparator;
import java.util.List;
import java.util.Set;
import java.util.TreeSet;
import java.util.regex.Matcher;
import java.util.regex.Pattern;
import java.util.stream.Stream;

/** Does what README.md says, in a copy of the project: its program, its commands, its calls with their answers. */
final class ReadmeTest {
    private static final Pattern FENCED = Pattern.compile("(?ms)^```(\\w+)\\n(.*?)^```$");
    private static final Pattern PROGRAM = Pattern.compile("(?m)^public class (\\w+)");
    private static final Pattern CALL = Pattern.compile("(bench\\.(\\w+)\\(.*\\)); +// (-?\\d+|true|false):? .*");
    private static final String ALL_TESTS = ".ci/run";
    private static final Check CHECK = new Check();

    private final Path copy;
    private final String page;
    private final StringBuilder calls = new StringBuilder();
    private final Set<String> called = new TreeSet<>();
    private int programs = 0;
    private int commands = 0;
    private int printed = 0;
    private String output = "";

    private ReadmeTest(Path copy, String page) {
        this.copy = copy;
        this.page = page;
    }

    public static void main(String[] args) throws IOException, InterruptedException {
        Path copy = Files.createTempDirectory("readme");
        try {
            copyTree(Path.of("src"), copy.resolve("src"));
            ReadmeTest test = new ReadmeTest(copy, Files.readString(Path.of("README.md")));
            test.followPage();
            test.makeCalls();
            test.checkWhole();
        } finally {
            removeTree(copy);
        }
        CHECK.finish("ReadmeTest");
    }

    // The page from its first block to its last

    private void followPage() throws IOException, InterruptedException {
        Matcher block = FENCED.matcher(page);
        while (block.find()) {
            String text = block.group(2);
            switch (block.group(1)) {
                case "java" -> takeJava(text);
                case "sh" -> runCommands(text);
                case "text" -> {
                    printed++;
                    CHECK.due("what the commands print", output, text);
                }
                default -> CHECK.due("a block of " + block.group(1), false, true);
            }
        }
    }

    private void takeJava(String text) throws IOException {
        Matcher program = PROGRAM.matcher(text);
        if (program.find()) {
            programs++;
            Files.writeString(copy.resolve(program.group(1) + ".java"), text);
            return;
        }
        for (String line : text.split("\n")) {
            takeCall(line);
        }
    }

    private void takeCall(String line) {
        if (!line.startsWith("bench.")) {
            calls.append(line).append('\n');
            return;
        }
        Matcher call = CALL.matcher(line);
        boolean told = call.matches();
        CHECK.due("an answer stands behind " + line, told, true);
        if (told) {
            called.add(call.group(2));
            calls.append("check.due(\"").append(call.group(1)).append("\", ").append(call.group(1)).append(", ")
                    .append(call.group(3)).append(");\n");
        }
    }

    private void runCommands(String text) throws IOException, InterruptedException {
        if (text.strip().equals(ALL_TESTS)) {
            CHECK.due(ALL_TESTS + " can be run", Files.isExecutable(Path.of(ALL_TESTS)), true);
            return;
        }
        commands++;
        run(text, "bash", "-e", "-c", text);
    }

    private void makeCalls() throws IOException, InterruptedException {
        String program = "final class ReadmeCalls {\n"
                + "public static void main(String[] args) {\nCheck check = new Check();\n"
                + calls + "check.finish(\"README's calls\");\n}\n}\n";
        Path file = copy.resolve("ReadmeCalls.java");
        Files.writeString(file, program);
        Path made = copy.resolve("calls");
        String classes = ownClasses();
        if (run("README's calls compile", "javac", "-cp", classes, "-d", made.toString(), file.toString())) {
            run("README's answers", "java", "-cp", classes + File.pathSeparator + made, "ReadmeCalls");
        }
    }

    /** The commands run in the copy, where a relative path would lead to another place. */
    private static String ownClasses() {
        StringBuilder all = new StringBuilder();
        for (String path : System.getProperty("java.class.path").split(File.pathSeparator)) {
            all.append(all.length() == 0 ? "" : File.pathSeparator).append(Path.of(path).toAbsolutePath());
        }
        return all.toString();
    }

    private boolean run(String name, String... command) throws IOException, InterruptedException {
        Process process = new ProcessBuilder(command).directory(copy.toFile()).redirectErrorStream(true).start();
        process.getOutputStream().close();
        output = new String(process.getInputStream().readAllBytes());
        int code = process.waitFor();
        CHECK.due(name, code, 0);
        if (code != 0) {
            System.out.print(output);
        }
        return code == 0;
    }

    // What the page must have

    private void checkWhole() throws IOException {
        CHECK.due("programs", programs, 1);
        CHECK.due("blocks of commands", commands, 3);
        CHECK.due("what is printed", printed, 1);
        CHECK.due("how all tests are run", page.contains("\n" + ALL_TESTS + "\n"), true);
        Set<String> face = new TreeSet<>();
        for (Method method : TransducerBench.class.getDeclaredMethods()) {
            if (Modifier.isPublic(method.getModifiers())) {
                face.add(method.getName());
            }
        }
        CHECK.due("each method is called", called.toString(), face.toString());
        for (Path file : filesOf(Path.of("src/test/java"))) {
            String name = file.getFileName().toString().replace(".java", "");
            CHECK.due("the page names " + name, page.contains("`" + name + "`"), true);
        }
    }

    // Files

    private static List<Path> filesOf(Path tree) throws IOException {
        try (Stream<Path> all = Files.walk(tree)) {
            return new ArrayList<>(all.filter(Files::isRegularFile).sorted().toList());
        }
    }

    private static void copyTree(Path from, Path to) throws IOException {
        for (Path file : filesOf(from)) {
            Path goal = to.resolve(from.relativize(file).toString());
            Files.createDirectories(goal.getParent());
            Files.copy(file, goal);
        }
    }

    private static void removeTree(Path tree) throws IOException {
        try (Stream<Path> all = Files.walk(tree)) {
            all.sorted(Comparator.reverseOrder()).forEach(ReadmeTest::remove);
        }
    }

    private static void remove(Path path) {
        try {
            Files.delete(path);
        } catch (IOException e) {
            throw new UncheckedIOException(e);
        }
    }
}
