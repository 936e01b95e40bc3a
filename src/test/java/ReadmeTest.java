import java.io.File;
import java.io.IOException;
import java.nio.file.Files;
import java.nio.file.Path;
import java.util.ArrayList;
import java.util.Comparator;
import java.util.List;
import java.util.Set;
import java.util.TreeSet;
import java.util.regex.Matcher;
import java.util.regex.Pattern;
import java.util.stream.Stream;

/** What README.md shows holds as it is written there: each call with its answer, each command, each name in its tables. */
public final class ReadmeTest {
    private static final Pattern CALL = Pattern.compile("(x\\.\\w+\\(.*\\)); +// (-?[0-9]+)(:.*)?");

    public static void main(String[] args) throws IOException, InterruptedException {
        List<String> lines = Files.readAllLines(Path.of("README.md"));
        Path copy = Files.createTempDirectory("readme");
        copyTo(copy);
        calls(lines, copy);
        commands(lines, copy);
        names(lines);
        remove(copy);
        Check.end();
    }

    /** The commands are run in a copy, so that what they write does not stay. */
    private static void copyTo(Path copy) throws IOException {
        try (Stream<Path> files = Files.walk(Path.of("src"))) {
            for (Path file : (Iterable<Path>) files::iterator) {
                Files.copy(file, copy.resolve(file.toString()));
            }
        }
    }

    private static void remove(Path copy) throws IOException {
        try (Stream<Path> files = Files.walk(copy)) {
            files.sorted(Comparator.reverseOrder()).forEach(file -> file.toFile().delete());
        }
    }

    private static int run(Path in, String... command) throws IOException, InterruptedException {
        return new ProcessBuilder(command).directory(in.toFile()).inheritIO().start().waitFor();
    }

    // ---- the calls

    /** A program of all that is shown, which ends with exit code 1 if an answer is not the one that is shown. */
    private static void calls(List<String> lines, Path copy) throws IOException, InterruptedException {
        List<String> program = new ArrayList<>(List.of("final class Shown {", "    public static void main(String[] args) {"));
        boolean shown = false;
        int calls = 0;
        for (String line : lines) {
            Matcher call = CALL.matcher(line);
            if (line.startsWith("```")) {
                shown = line.equals("```java");
            } else if (shown && call.matches()) {
                program.add("Check.due(\"README: " + call.group(1).replace("\"", "\\\"") + "\", " + call.group(1) + ", " + call.group(2) + ");");
                calls++;
            } else if (shown) {
                Check.that("a line of one call tells its answer: " + line, !line.startsWith("x."));
                program.add(line);
            }
        }
        program.addAll(List.of("        Check.end();", "    }", "}"));
        Check.that("README shows calls: " + calls, calls > 30);
        Files.write(copy.resolve("Shown.java"), program);
        int compiled = run(copy, "javac", "-d", "shown", "-sourcepath", "src/test/support" + File.pathSeparator + "src/main/java", "Shown.java");
        Check.due("javac of what is shown", compiled, 0);
        Check.due("java of what is shown", run(copy, "java", "-cp", "shown", "Shown"), 0);
    }

    // ---- the commands

    private static void commands(List<String> lines, Path copy) throws IOException, InterruptedException {
        int commands = 0;
        boolean code = false;
        for (String line : lines) {
            code = line.startsWith("```") ? !code : code;
            if (code || !line.startsWith("    ")) {
                continue;
            }
            commands++;
            if (line.strip().equals(".ci/run")) {
                // It is what runs this test.
                Check.that(".ci/run can be run", Files.isExecutable(Path.of(".ci/run")));
            } else {
                Check.due("README: " + line.strip(), run(copy, "sh", "-c", line.strip()), 0);
            }
        }
        Check.due("commands", commands, 3);
    }

    // ---- the tables

    private static void names(List<String> lines) {
        Set<String> files = new TreeSet<>();
        for (String folder : new String[] {"src/test/java", "src/test/support"}) {
            for (String file : new File(folder).list()) {
                files.add(file.replace(".java", ""));
            }
        }
        Set<String> named = new TreeSet<>();
        for (String line : lines) {
            if (line.startsWith("| ") && !line.startsWith("| test |") && !line.startsWith("| file |")) {
                named.addAll(List.of(line.substring(2, line.indexOf(" |", 2)).split(", ")));
            }
        }
        Check.that("README names " + named + ", the files are " + files, named.equals(files));
    }
}
