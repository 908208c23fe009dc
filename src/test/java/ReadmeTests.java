import java.io.IOException;
import java.nio.charset.StandardCharsets;
import java.nio.file.Files;
import java.nio.file.Path;
import java.util.ArrayList;
import java.util.Comparator;
import java.util.List;
import java.util.regex.Matcher;
import java.util.regex.Pattern;
import java.util.stream.Collectors;
import java.util.stream.Stream;

/** What README.md says is so when it is tried as it stands there. */
public final class ReadmeTests {
    private static final Path PAGE = Path.of("README.md");
    private static final Path CLASS = Path.of("src/main/java/OneBeatsBoth.java");
    private static final Path TESTS = Path.of("src/test/java");

    private ReadmeTests() {
    }

    public static void main(String[] args) throws IOException, InterruptedException {
        List<String> page = Files.readAllLines(PAGE, StandardCharsets.UTF_8);
        List<String> use = section(page, "## How to use it");
        List<String> tests = section(page, "## How its tests are run");
        programRuns(use);
        testsAreTold(tests);
        Due.end("ReadmeTests");
    }

    private static List<String> section(List<String> page, String heading) {
        List<String> lines = new ArrayList<>();
        boolean inside = false;
        for (String line : page) {
            if (line.startsWith("## ")) {
                inside = line.equals(heading);
            } else if (inside) {
                lines.add(line);
            }
        }
        Due.holds("README.md has a part " + heading, !lines.isEmpty());
        return lines;
    }

    private static List<String> program(List<String> use) {
        int from = use.indexOf("```java");
        int to = use.indexOf("```");
        Due.holds("README.md has a program", from >= 0 && to > from);
        return from >= 0 && to > from ? use.subList(from + 1, to) : List.of();
    }

    /** The lines that are set in by four, outside of a program: what is typed. */
    private static List<String> typed(List<String> lines) {
        List<String> typed = new ArrayList<>();
        boolean program = false;
        for (String line : lines) {
            if (line.startsWith("```")) {
                program = !program;
            } else if (!program && line.startsWith("    ")) {
                typed.add(line.substring(4));
            }
        }
        return typed;
    }

    /** What stands behind each print's comment ahead of the colon. */
    private static String due(List<String> program) {
        StringBuilder due = new StringBuilder();
        Pattern told = Pattern.compile("// ([^:]+): .+$");
        boolean caught = false;
        for (String line : program) {
            if (line.contains("System.out.println(")) {
                Matcher m = told.matcher(line);
                boolean tells = m.find();
                // A print that throws instead tells nothing: the one in the catch behind it does.
                if (tells) {
                    due.append(m.group(1)).append('\n');
                } else {
                    Due.holds("just one print tells nothing: " + line, !caught);
                    caught = true;
                }
            }
        }
        return due.toString();
    }

    private static void programRuns(List<String> use) throws IOException, InterruptedException {
        List<String> program = program(use);
        List<String> typed = typed(use);
        Due.is("README.md's commands", typed.size(), 2);
        Path folder = Files.createTempDirectory("readme");
        try {
            Path there = folder.resolve(CLASS);
            Files.createDirectories(there.getParent());
            Files.copy(CLASS, there);
            Files.write(folder.resolve("YourProgram.java"), program, StandardCharsets.UTF_8);
            String printed = "";
            for (String command : typed) {
                printed = answer(folder, command);
            }
            Due.same("what README.md's program prints", printed, due(program));
        } finally {
            remove(folder);
        }
    }

    private static String answer(Path folder, String command) throws IOException, InterruptedException {
        Process process = new ProcessBuilder("sh", "-c", command).directory(folder.toFile()).redirectErrorStream(true).start();
        process.getOutputStream().close();
        String printed = new String(process.getInputStream().readAllBytes(), StandardCharsets.UTF_8);
        int code = process.waitFor();
        Due.is(command + " [" + (code == 0 ? "" : printed) + "] ends with", code, 0);
        return printed;
    }

    private static void remove(Path folder) throws IOException {
        List<Path> all;
        try (Stream<Path> walk = Files.walk(folder)) {
            all = walk.sorted(Comparator.reverseOrder()).collect(Collectors.toList());
        }
        for (Path path : all) {
            Files.delete(path);
        }
    }

    /** Each test is told, and what is told is there. */
    private static void testsAreTold(List<String> lines) throws IOException {
        List<String> typed = typed(lines);
        Due.same("how the tests are run", typed.toString(), "[.ci/run]");
        Due.holds("it can be run", Files.isExecutable(Path.of(".ci/run")));
        String text = String.join("\n", lines);
        List<String> names;
        try (Stream<Path> files = Files.list(TESTS)) {
            names = files.map(f -> f.getFileName().toString().replace(".java", "")).sorted().collect(Collectors.toList());
        }
        for (String name : names) {
            Due.holds(name + " is told", text.contains("`" + name + "`"));
        }
        Matcher m = Pattern.compile("`([A-Z]\\w*(?:Tests|Edges))`").matcher(text);
        while (m.find()) {
            Due.holds(m.group(1) + " is there", names.contains(m.group(1)));
        }
        String run = Files.readString(Path.of(".ci/run"), StandardCharsets.UTF_8);
        Due.holds("what it says when all pass", run.contains("echo \"all tests pass\"") && text.contains("`all tests pass`"));
    }
}
