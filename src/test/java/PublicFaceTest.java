import java.lang.reflect.Constructor;
import java.lang.reflect.Field;
import java.lang.reflect.Method;
import java.lang.reflect.Modifier;
import java.util.Arrays;
import java.util.TreeSet;

/** "The public face": every member of the document, and no other that can be seen from outside. */
public final class PublicFaceTest {
    private static final String[] MEMBERS = {
        "public ProgressTracker(int)",
        "public final int advanceInput(int,int)", "public final int broadcast(int)",
        "public final int capabilities(int,int,int,int)", "public final boolean canReach(int,int,int,int)",
        "public final boolean couldArrive(int,int,int)", "public final int deliver(int,int)",
        "public final int drop(int,int,int,int)", "public final int frontierElement(int,int,int)",
        "public final int frontierSize(int,int)", "public final boolean isQuiet()",
        "public final int messages(int,int,int)", "public final int pendingCount(int,int,int,int)",
        "public final int queuedBatches(int,int)", "public final int receive(int,int,int,int)",
        "public final int send(int,int,int,int)", "public final int viewCount(int,int,int,int)",
        "OK = 0", "BAD_ARG = -1", "NO_CAPABILITY = -2", "NO_MESSAGE = -3", "ROUND_LIMIT = -4",
        "EPOCH_LIMIT = -5", "PENDING_FULL = -6", "CHANNEL_FULL = -7", "EMPTY = -8",
        "SOURCE = 0", "HEAD = 1", "BODY = 2", "SINK = 3",
        "FEEDBACK_EDGE = 2", "MAX_PENDING = 16", "CHANNEL_CAPACITY = 32",
    };

    public static void main(String[] args) throws IllegalAccessException {
        Check check = new Check();
        Class<?> face = ProgressTracker.class;
        check.due("modifiers of the class", Modifier.toString(face.getModifiers()), "public final");
        check.due("superclass", face.getSuperclass(), Object.class);
        check.due("interfaces", face.getInterfaces().length, 0);
        check.due("nested classes", face.getDeclaredClasses().length, 0);
        check.due("members", visibleMembers(face), new TreeSet<>(Arrays.asList(MEMBERS)));
        check.end();
    }

    private static TreeSet<String> visibleMembers(Class<?> face) throws IllegalAccessException {
        TreeSet<String> seen = new TreeSet<>();
        for (Constructor<?> made : face.getDeclaredConstructors()) {
            if (!Modifier.isPrivate(made.getModifiers())) {
                seen.add(made.toGenericString());
            }
        }
        for (Method method : face.getDeclaredMethods()) {
            if (!Modifier.isPrivate(method.getModifiers())) {
                // A method of a final class is as good as final.
                String text = method.toGenericString().replace("ProgressTracker.", "").replace("final ", "");
                seen.add(text.replace("public ", "public final "));
            }
        }
        for (Field field : face.getDeclaredFields()) {
            if (!Modifier.isPrivate(field.getModifiers())) {
                boolean constant = Modifier.toString(field.getModifiers()).equals("public static final")
                    && field.getType() == int.class;
                seen.add(constant ? field.getName() + " = " + field.getInt(null) : field.toString());
            }
        }
        return seen;
    }
}
