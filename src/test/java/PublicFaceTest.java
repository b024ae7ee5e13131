import java.io.IOException;
import java.lang.reflect.Executable;
import java.lang.reflect.Field;
import java.lang.reflect.Method;
import java.lang.reflect.Modifier;
import java.nio.file.Files;
import java.nio.file.Path;
import java.util.Set;
import java.util.TreeSet;
import java.util.regex.Matcher;
import java.util.regex.Pattern;
import java.util.stream.Collectors;
import java.util.stream.Stream;

/**
 * "The public face": every member of the document's code block, and no other that can be seen from outside. The block
 * is read from the document itself, so the test must run in the project's folder.
 */
public final class PublicFaceTest {
    private static final Path DOCUMENT = Path.of("../shared/DOC.md");
    private static final Path SOURCE = Path.of("src/main/java/ProgressTracker.java");
    private static final Class<?> FACE = ProgressTracker.class;
    private static final int CONSTANTS = 16;
    private static final int MEMBERS = CONSTANTS + 1 + 16;

    private static final Check CHECK = new Check();

    public static void main(String[] args) throws IOException, IllegalAccessException {
        String document = Files.readString(DOCUMENT);
        Set<String> members = members(between(document, "## The public face", "## Promise 1"));
        CHECK.due("members in the document's code block", members.size(), MEMBERS);
        theClass();
        CHECK.due("members that can be seen from outside", seenMembers(), withoutParameterNames(members));
        CHECK.due("members in the source", members(Files.readString(SOURCE)), members);
        listOfConstants(between(document, "**Public constants.**", "## The public face"));
        areConstantExpressions();
        CHECK.end();
    }

    private static String between(String text, String first, String last) {
        int start = text.indexOf(first);
        int end = text.indexOf(last);
        CHECK.due("whether the document has '" + first + "' before '" + last + "'", 0 <= start && start < end, true);
        return 0 <= start && start < end ? text.substring(start, end) : "";
    }

    /** The lines of a class that begin a public member, as the document writes them. */
    private static Set<String> members(String text) {
        Set<String> found = new TreeSet<>();
        for (String line : text.split("\n")) {
            if (line.startsWith("    public ")) {
                found.add(line.strip().replaceAll(" \\{$", ";"));
            }
        }
        return found;
    }

    private static Set<String> withoutParameterNames(Set<String> members) {
        return members.stream().map(line -> line.replaceAll("int \\w+(?=[,)])", "int"))
            .collect(Collectors.toCollection(TreeSet::new));
    }

    private static void theClass() {
        CHECK.due("modifiers of the class", Modifier.toString(FACE.getModifiers()), "public final");
        CHECK.due("package", FACE.getPackageName(), "");
        CHECK.due("superclass", FACE.getSuperclass(), Object.class);
        CHECK.due("interfaces", FACE.getInterfaces().length, 0);
        CHECK.due("nested classes", FACE.getDeclaredClasses().length, 0);
    }

    /** Every member of the compiled class that is not private, as the document writes it. */
    private static Set<String> seenMembers() throws IllegalAccessException {
        Set<String> seen = new TreeSet<>();
        for (Executable made : FACE.getDeclaredConstructors()) {
            if (!Modifier.isPrivate(made.getModifiers())) {
                seen.add(head(made.getModifiers(), made.getName()) + parameters(made));
            }
        }
        for (Method method : FACE.getDeclaredMethods()) {
            if (!Modifier.isPrivate(method.getModifiers())) {
                String typeAndName = method.getReturnType().getName() + " " + method.getName();
                seen.add(head(method.getModifiers(), typeAndName) + parameters(method));
            }
        }
        for (Field field : FACE.getDeclaredFields()) {
            if (!Modifier.isPrivate(field.getModifiers())) {
                String typeAndName = field.getType().getName() + " " + field.getName();
                boolean constant = Modifier.isStatic(field.getModifiers()) && field.getType() == int.class;
                seen.add(head(field.getModifiers(), typeAndName) + " = " + (constant ? field.getInt(null) : "?") + ";");
            }
        }
        return seen;
    }

    private static String head(int modifiers, String name) {
        return Modifier.toString(modifiers) + " " + name;
    }

    private static String parameters(Executable member) {
        String thrown = member.getExceptionTypes().length == 0 ? "" : " throws something";
        return Stream.of(member.getParameterTypes()).map(Class::getName).collect(Collectors.joining(", ", "(", ")"))
            + thrown + ";";
    }

    /** "Result codes: OK = 0, BAD_ARG = -1 [...]", as "What it is" lists them. */
    private static void listOfConstants(String list) throws IllegalAccessException {
        Matcher told = Pattern.compile("`([A-Z_]+) = (-?\\d+)`").matcher(list);
        int count = 0;
        for (; told.find(); count++) {
            CHECK.due(told.group(1), constant(told.group(1)), told.group(2));
        }
        CHECK.due("constants in the list", count, CONSTANTS);
    }

    private static String constant(String name) throws IllegalAccessException {
        try {
            return String.valueOf(FACE.getField(name).getInt(null));
        } catch (NoSuchFieldException missing) {
            return "nothing";
        }
    }

    /** Only a constant expression may stand behind a case: it is the compiler that tests here. */
    private static void areConstantExpressions() {
        for (int code = 0; code >= -8; code--) {
            CHECK.due("whether " + code + " is a result code", isResultCode(code), true);
        }
        CHECK.due("whether -9 is a result code", isResultCode(-9), false);
        for (int number = 0; number < 4; number++) {
            CHECK.due("whether " + number + " is an operator", isOperator(number), true);
        }
        CHECK.due("whether 4 is an operator", isOperator(4), false);
        for (int limit : new int[] {2, 16, 32}) {
            CHECK.due("whether " + limit + " is the edge or a limit", isEdgeOrLimit(limit), true);
        }
    }

    private static boolean isResultCode(int code) {
        switch (code) {
            case ProgressTracker.OK:
            case ProgressTracker.BAD_ARG:
            case ProgressTracker.NO_CAPABILITY:
            case ProgressTracker.NO_MESSAGE:
            case ProgressTracker.ROUND_LIMIT:
            case ProgressTracker.EPOCH_LIMIT:
            case ProgressTracker.PENDING_FULL:
            case ProgressTracker.CHANNEL_FULL:
            case ProgressTracker.EMPTY:
                return true;
            default:
                return false;
        }
    }

    private static boolean isOperator(int number) {
        switch (number) {
            case ProgressTracker.SOURCE:
            case ProgressTracker.HEAD:
            case ProgressTracker.BODY:
            case ProgressTracker.SINK:
                return true;
            default:
                return false;
        }
    }

    private static boolean isEdgeOrLimit(int number) {
        switch (number) {
            case ProgressTracker.FEEDBACK_EDGE:
            case ProgressTracker.MAX_PENDING:
            case ProgressTracker.CHANNEL_CAPACITY:
                return true;
            default:
                return false;
        }
    }
}
