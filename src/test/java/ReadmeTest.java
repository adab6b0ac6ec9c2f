import java.io.IOException;
import java.lang.reflect.InvocationTargetException;
import java.lang.reflect.Method;
import java.lang.reflect.Modifier;
import java.net.URISyntaxException;
import java.nio.file.DirectoryStream;
import java.nio.file.Files;
import java.nio.file.Path;
import java.util.ArrayList;
import java.util.List;
import java.util.Set;
import java.util.TreeSet;
import java.util.regex.Matcher;
import java.util.regex.Pattern;
import javax.tools.JavaCompiler;
import javax.tools.ToolProvider;

/**
 * README.md holds: what it shows of the class's use is compiled and answers as it says, and the
 * calls and tests that it names are those that there are. Started from the project's directory.
 */
public final class ReadmeTest {
    private static final Path TESTS = Path.of("src", "test", "java");
    private static final Path SCRIPT = Path.of(".ci", "run");

    private static final Pattern CALL = Pattern.compile(
            "(?:(int|long|boolean) (\\w+) = )?(town\\.\\w+\\(.*\\));\\s*"
            + "// (NONE|true|false|-?\\d+)(?::.*)?");
    private static final Pattern NAMED_TEST = Pattern.compile("`(\\w+Test)`");

    private static final Checks checks = new Checks();

    public static void main(String[] args) throws Exception {
        List<String> lines = Files.readAllLines(Path.of("README.md"));
        List<String> use = blocks(lines, "java");
        useAnswersAsItSays(use);
        everyCallIsShown(use, lines);
        theWayToRunTestsIsTheScript(lines);
        everyTestIsNamed(lines);
        checks.end();
    }

    /** The lines of all fenced blocks of a language, one behind the other. */
    private static List<String> blocks(List<String> lines, String language) {
        List<String> inside = new ArrayList<>();
        boolean within = false;
        for (String line : lines) {
            if (line.startsWith("```")) {
                within = line.equals("```" + language);
            } else if (within) {
                inside.add(line);
            }
        }
        return inside;
    }

    private static void useAnswersAsItSays(List<String> use)
            throws IOException, URISyntaxException, ReflectiveOperationException {
        StringBuilder program = new StringBuilder();
        program.append("final class ReadmeUse {\n");
        program.append("static final int NONE = StreetSides.NONE;\n");
        program.append("static void run(Checks checks) {\n");
        for (String line : use) {
            program.append(checked(line)).append('\n');
        }
        program.append("}\n}\n");
        if (!compiles("ReadmeUse", program.toString())) {
            checks.due("README.md's use compiles", false, true);
            return;
        }
        Method run = Class.forName("ReadmeUse").getDeclaredMethod("run", Checks.class);
        try {
            run.invoke(null, checks);
        } catch (InvocationTargetException thrown) {
            checks.due("README.md's use throws " + thrown.getCause(), true, false);
        }
    }

    /** A line of the use, with its answer looked at where it calls. */
    private static String checked(String line) {
        if (!line.contains("town.")) {
            return line;
        }
        Matcher call = CALL.matcher(line);
        if (!call.matches()) {
            checks.due("README.md says what is answered: " + line, false, true);
            return line;
        }
        String label = "\"README.md: " + call.group(3) + "\"";
        if (call.group(2) == null) {
            return "checks.due(" + label + ", " + call.group(3) + ", " + call.group(4) + ");";
        }
        return call.group(1) + " " + call.group(2) + " = " + call.group(3) + "; "
                + "checks.due(" + label + ", " + call.group(2) + ", " + call.group(4) + ");";
    }

    /** Into the directory of the tests' own classes, so that it sees them and they see it. */
    private static boolean compiles(String name, String program)
            throws IOException, URISyntaxException {
        JavaCompiler compiler = ToolProvider.getSystemJavaCompiler();
        if (compiler == null) {
            return false;
        }
        Path classes = Path.of(
                Checks.class.getProtectionDomain().getCodeSource().getLocation().toURI());
        Path file = classes.resolve(name + ".java");
        Files.writeString(file, program);
        return compiler.run(null, null, null, "-d", classes.toString(), "-cp", classes.toString(),
                file.toString()) == 0;
    }

    private static void everyCallIsShown(List<String> use, List<String> lines) {
        String shown = String.join("\n", use);
        for (Method method : StreetSides.class.getDeclaredMethods()) {
            if (Modifier.isPublic(method.getModifiers())) {
                String call = method.getName() + "(";
                checks.due("README.md uses " + call + "..)", shown.contains("town." + call), true);
                checks.due("README.md lists " + call + "..)", hasRow(lines, call), true);
            }
        }
    }

    private static boolean hasRow(List<String> lines, String call) {
        for (String line : lines) {
            if (line.startsWith("| `" + call)) {
                return true;
            }
        }
        return false;
    }

    private static void theWayToRunTestsIsTheScript(List<String> lines) {
        List<String> commands = blocks(lines, "sh");
        checks.due("README.md's commands " + commands, commands.equals(List.of(".ci/run")), true);
        checks.due(".ci/run can be run", Files.isExecutable(SCRIPT), true);
    }

    private static void everyTestIsNamed(List<String> lines) throws IOException {
        Set<String> named = new TreeSet<>();
        for (String line : lines) {
            Matcher test = NAMED_TEST.matcher(line);
            while (test.find()) {
                named.add(test.group(1));
            }
        }
        Set<String> there = new TreeSet<>();
        try (DirectoryStream<Path> files = Files.newDirectoryStream(TESTS, "*Test.java")) {
            for (Path file : files) {
                there.add(file.getFileName().toString().replace(".java", ""));
            }
        }
        checks.due("README.md names " + named + ", there are " + there, named.equals(there), true);
    }
}
