import java.io.File;
import java.io.IOException;
import java.lang.reflect.Field;
import java.lang.reflect.Method;
import java.lang.reflect.Modifier;
import java.nio.file.Files;
import java.nio.file.Path;
import java.util.ArrayList;
import java.util.Comparator;
import java.util.List;
import java.util.Set;
import java.util.TreeSet;
import java.util.regex.Matcher;
import java.util.regex.Pattern;
import java.util.stream.Stream;

/**
 * What README.md says of the use of the class holds: its calls become a program, which is compiled and run with
 * the commands that stand there. It is looked for in the directory in which .ci/run runs the tests.
 */
public final class ReadmeTest {
    private static final Pattern NEW_OBJECT = Pattern.compile("ReadJoiner x = new ReadJoiner\\(\\);");
    private static final Pattern CALL = Pattern.compile(
            "(?:int (\\w+) = )?(x\\.(\\w+)\\([^()]*\\)); +// (true|false|\\d+|ReadJoiner\\.(\\w+))(?:: (.*))?");
    private static final Pattern JOIN = Pattern.compile("the first join is ([0-3]+)");
    private static final Pattern COMMAND = Pattern.compile(" {4}(javac? .*)");

    private static int wrong = 0;

    public static void main(String[] args) throws IOException, InterruptedException {
        List<String> readme = Files.readAllLines(Path.of("README.md"));
        Set<String> shown = new TreeSet<>();
        List<String> program = programOf(javaLines(readme), shown);
        nothingLeftOut(shown);
        testsAreNamed(String.join("\n", readme));
        runWith(commandsOf(readme), program);
        System.out.println(wrong == 0 ? "README.md holds" : wrong + " parts of README.md do not hold");
        if (wrong != 0) {
            System.exit(1);
        }
    }

    private static void fault(String what) {
        wrong++;
        System.out.println("README.md: " + what);
    }

    private static List<String> javaLines(List<String> readme) {
        List<String> lines = new ArrayList<>();
        boolean inside = false;
        for (String line : readme) {
            if (line.startsWith("```")) {
                inside = line.equals("```java");
            } else if (inside) {
                lines.add(line);
            }
        }
        return lines;
    }

    private static List<String> commandsOf(List<String> readme) {
        return readme.stream().map(COMMAND::matcher).filter(Matcher::matches).map(m -> m.group(1)).toList();
    }

    /** A program that makes the calls and fails if one answers otherwise; adds to shown what the lines name. */
    private static List<String> programOf(List<String> lines, Set<String> shown) {
        List<String> program = new ArrayList<>(List.of(
                "public final class YourProgram {",
                "static int wrong = 0;",
                "static void due(String call, Object got, Object want) {",
                "if (!got.equals(want)) { wrong++; System.out.println(call + \" answered \" + got); } }",
                "static String join(ReadJoiner x) { String s = \"\";",
                "for (int k = 0; k < x.shortest(); k++) { s += x.symbolAt(k); } return s; }",
                "public static void main(String[] args) {"));
        for (String line : lines) {
            Matcher call = CALL.matcher(line);
            if (NEW_OBJECT.matcher(line).matches()) {
                program.add(line);
            } else if (call.matches()) {
                shown.add(call.group(3));
                shown.add(String.valueOf(call.group(5)));
                program.addAll(checksOf(line, call));
            } else {
                fault("not a call with its answer: " + line);
            }
        }
        program.add("System.exit(wrong == 0 ? 0 : 1); } }");
        return program;
    }

    private static List<String> checksOf(String line, Matcher call) {
        List<String> checks = new ArrayList<>();
        String got = call.group(2);
        if (call.group(1) != null) {
            checks.add("int " + call.group(1) + " = " + got + ";");
            got = call.group(1);
        }
        checks.add("due(\"" + line + "\", " + got + ", " + call.group(4) + ");");
        Matcher join = JOIN.matcher(String.valueOf(call.group(6)));
        if (join.find()) {
            checks.add("due(\"" + line + "\", join(x), \"" + join.group(1) + "\");");
        }
        return checks;
    }

    private static void nothingLeftOut(Set<String> shown) {
        for (Method method : ReadJoiner.class.getDeclaredMethods()) {
            if (Modifier.isPublic(method.getModifiers()) && !shown.contains(method.getName())) {
                fault("no call of " + method.getName());
            }
        }
        for (Field field : ReadJoiner.class.getDeclaredFields()) {
            if (Modifier.isPublic(field.getModifiers()) && !shown.contains(field.getName())) {
                fault("no call that answers " + field.getName());
            }
        }
    }

    private static void testsAreNamed(String readme) throws IOException {
        try (Stream<Path> tests = Files.list(Path.of("src/test/java"))) {
            tests.map(test -> test.getFileName().toString().replace(".java", ""))
                    .filter(name -> !readme.contains("- `" + name + "`"))
                    .forEach(name -> fault("does not name the test " + name));
        }
        if (!readme.contains("\n    .ci/run\n") || !Files.isExecutable(Path.of(".ci/run"))) {
            fault(".ci/run is not shown, or cannot be run");
        }
    }

    private static void runWith(List<String> commands, List<String> program) throws IOException, InterruptedException {
        if (commands.size() != 2) {
            fault("commands to compile and to run a program are due, not " + commands);
        }
        Path directory = Files.createTempDirectory("readme");
        Path main = Path.of("src/main/java/ReadJoiner.java");
        Files.createDirectories(directory.resolve(main).getParent());
        Files.copy(main, directory.resolve(main));
        Files.write(directory.resolve("YourProgram.java"), program);
        for (String command : commands) {
            Process process = new ProcessBuilder(command.split(" ")).directory(directory.toFile()).inheritIO().start();
            if (process.waitFor() != 0) {
                fault("does not hold: " + command);
            }
        }
        deleteAll(directory);
    }

    private static void deleteAll(Path directory) throws IOException {
        try (Stream<Path> files = Files.walk(directory)) {
            files.sorted(Comparator.reverseOrder()).map(Path::toFile).forEach(File::delete);
        }
    }
}
