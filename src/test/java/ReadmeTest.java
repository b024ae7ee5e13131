import java.io.File;
import java.io.IOException;
import java.lang.reflect.Method;
import java.lang.reflect.Modifier;
import java.net.URL;
import java.net.URLClassLoader;
import java.nio.file.Files;
import java.nio.file.Path;
import java.util.ArrayList;
import java.util.Arrays;
import java.util.List;
import java.util.Set;
import java.util.TreeSet;
import java.util.regex.Matcher;
import java.util.regex.Pattern;
import javax.tools.ToolProvider;

/**
 * README.md: its Java is compiled and run, and every call must answer what stands behind it; its tables must name every
 * method and every code as the class has them. It must run in the project's folder.
 */
public final class ReadmeTest {
    private static final Check CHECK = new Check();
    private static final Path FOLDER = Path.of("build/readme");

    /** A call, with the answer behind it: a number, a boolean or the name of a constant, and perhaps a reason. */
    private static final Pattern CALL = Pattern.compile("\\s*([xy]\\.(\\w+)\\(.*\\)); +// ([-\\w]+)(: .*)?");
    private static final Pattern OTHER = Pattern.compile("|ProgressTracker [xy] = new .*;|for \\(.*\\) \\{|}");

    private static final Set<String> METHODS = new TreeSet<>();
    private static final Set<String> ANSWERS = new TreeSet<>();
    private static int made = 0;

    public static void main(String[] args) throws IOException, ReflectiveOperationException {
        String readme = Files.readString(Path.of("README.md"));
        int calls = calls(readme);
        CHECK.due("whether at least as many calls were made as README.md shows", made >= calls && calls > 0, true);
        CHECK.due("methods in the calls", METHODS, methodNames());
        CHECK.due("methods in the table", cells(readme, "\\| `(\\w+)\\([^`]*\\)` \\|.*"), methodNames());
        outOfRange(readme);
        codes(readme);
        CHECK.end();
    }

    /** What the program that is made of README.md calls. */
    public static void told(String call, int got, int want) {
        made++;
        CHECK.due(call, got, want);
    }

    public static void told(String call, boolean got, boolean want) {
        made++;
        CHECK.due(call, got, want);
    }

    /** Runs the Java of README.md, and says how many lines of it are calls. */
    private static int calls(String readme) throws IOException, ReflectiveOperationException {
        StringBuilder body = new StringBuilder();
        int calls = 0;
        for (String line : javaLines(readme)) {
            Matcher call = CALL.matcher(line);
            if (call.matches()) {
                calls++;
                METHODS.add(call.group(2));
                ANSWERS.add(call.group(3));
                body.append("ReadmeTest.told(\"" + call.group(1) + "\", " + call.group(1) + ", "
                    + (isName(call.group(3)) ? "ProgressTracker." : "") + call.group(3) + ");\n");
            } else {
                CHECK.due("whether '" + line + "' is something else than a call", OTHER.matcher(line).matches(), true);
                body.append(line).append('\n');
            }
        }
        run("public final class Readme {\npublic static void calls() {\n" + body + "}\n}\n");
        return calls;
    }

    private static boolean isName(String answer) {
        return Character.isUpperCase(answer.charAt(0));
    }

    private static List<String> javaLines(String readme) {
        List<String> lines = new ArrayList<>();
        boolean inside = false;
        for (String line : readme.split("\n")) {
            if (line.startsWith("```")) {
                inside = line.equals("```java");
            } else if (inside) {
                lines.add(line);
            }
        }
        return lines;
    }

    private static void run(String program) throws IOException, ReflectiveOperationException {
        Files.createDirectories(FOLDER);
        Path file = Files.writeString(FOLDER.resolve("Readme.java"), program);
        String classes = System.getProperty("java.class.path");
        int failed = ToolProvider.getSystemJavaCompiler().run(null, null, null,
            "-cp", classes, "-d", FOLDER.toString(), file.toString());
        CHECK.due("whether the Java of README.md compiles", failed, 0);
        if (failed == 0) {
            URL[] places = {new File(FOLDER.toString()).toURI().toURL()};
            try (URLClassLoader loader = new URLClassLoader(places, ReadmeTest.class.getClassLoader())) {
                loader.loadClass("Readme").getMethod("calls").invoke(null);
            }
        }
    }

    private static List<Method> methods() {
        List<Method> found = new ArrayList<>(Arrays.asList(ProgressTracker.class.getDeclaredMethods()));
        found.removeIf(method -> !Modifier.isPublic(method.getModifiers()));
        return found;
    }

    private static Set<String> methodNames() {
        Set<String> names = new TreeSet<>();
        methods().forEach(method -> names.add(method.getName()));
        return names;
    }

    /** What the group of the pattern is in each line that is such a row of a table. */
    private static Set<String> cells(String readme, String row) {
        Set<String> found = new TreeSet<>();
        for (String line : readme.split("\n")) {
            Matcher match = Pattern.compile(row).matcher(line);
            if (match.matches()) {
                found.add(match.group(1));
            }
        }
        return found;
    }

    /** The table's last column, for a call whose arguments are all -1. */
    private static void outOfRange(String readme) throws ReflectiveOperationException {
        ProgressTracker x = new ProgressTracker(4);
        for (Method method : methods()) {
            Object[] arguments = new Object[method.getParameterCount()];
            Arrays.fill(arguments, -1);
            String answer = method.invoke(x, arguments).toString();
            String told = String.join(" ", cells(readme, "\\| `" + method.getName() + "\\(.* \\| `([^`]+)` \\|"));
            if (arguments.length > 0) {
                CHECK.due(method.getName() + " of nothing but -1", answer, told.equals("BAD_ARG") ? "-1" : told);
            }
        }
    }

    /** The table of codes has every one with its value, and the calls show each of them. */
    private static void codes(String readme) throws ReflectiveOperationException {
        Set<String> codes = cells(readme, "\\| `([A-Z_]+)` \\| -\\d \\|.*");
        CHECK.due("codes in the table", codes.size(), 8);
        for (String code : codes) {
            int value = ProgressTracker.class.getField(code).getInt(null);
            CHECK.due("whether the table has " + code + " as " + value,
                readme.contains("| `" + code + "` | " + value + " |"), true);
            CHECK.due("whether a call answers " + code, ANSWERS.contains(code), true);
        }
    }
}
