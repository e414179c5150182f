import java.lang.reflect.Constructor;
import java.lang.reflect.Field;
import java.lang.reflect.Method;
import java.lang.reflect.Modifier;
import java.util.Set;
import java.util.TreeSet;

/** The public face: its constants, constructor and methods, and nothing else that can be seen. */
public final class FaceTest {
    private static final Due due = new Due();

    public static void main(String[] args) {
        constants();
        methods();
        fields();
        due.same("constructors", CoroutineFrames.class.getDeclaredConstructors().length, 1);
        for (Constructor<?> constructor : CoroutineFrames.class.getDeclaredConstructors()) {
            due.yes("constructor public", Modifier.isPublic(constructor.getModifiers()));
            due.same("constructor's parameters", constructor.getParameterCount(), 0);
        }
        due.yes("class public", Modifier.isPublic(CoroutineFrames.class.getModifiers()));
        due.yes("class final", Modifier.isFinal(CoroutineFrames.class.getModifiers()));
        due.same("nested classes", CoroutineFrames.class.getDeclaredClasses().length, 0);
        due.yes("extends nothing", CoroutineFrames.class.getSuperclass() == Object.class);
        due.same("interfaces", CoroutineFrames.class.getInterfaces().length, 0);
        due.end();
    }

    private static void constants() {
        due.same("BAD_NUMBER", CoroutineFrames.BAD_NUMBER, -1);
        due.same("FULL", CoroutineFrames.FULL, -2);
        due.same("LOCKED", CoroutineFrames.LOCKED, -3);
        due.same("NOT_READY", CoroutineFrames.NOT_READY, -4);
        due.same("NONE", CoroutineFrames.NONE, 0);
        due.same("READY", CoroutineFrames.READY, 1);
        due.same("WAITING", CoroutineFrames.WAITING, 2);
        due.same("DONE", CoroutineFrames.DONE, 3);
        due.same("FAILED", CoroutineFrames.FAILED, 4);
    }

    private static void methods() {
        Set<String> open = new TreeSet<>();
        Set<String> hidden = new TreeSet<>();
        for (Method method : CoroutineFrames.class.getDeclaredMethods()) {
            boolean isPrivate = Modifier.isPrivate(method.getModifiers());
            StringBuilder face = new StringBuilder(method.getReturnType() + " " + method.getName());
            for (Class<?> type : method.getParameterTypes()) {
                face.append(' ').append(type);
            }
            (isPrivate ? hidden : open).add(isPrivate ? method.getName() : face.toString());
            due.yes(method + " public or private", isPrivate || Modifier.isPublic(method.getModifiers()));
            due.yes(method + " has at most seven parameters", method.getParameterCount() <= 7);
        }
        Set<String> wanted = new TreeSet<>(Set.of(
                "int emit int int int int", "int start int int int", "int resume int int", "int echo int int",
                "int copy int int", "int drop int", "int state int", "int value int", "int depth int",
                "boolean alike int int", "int steps int"));
        due.yes("methods " + open + " are " + wanted, open.equals(wanted));
        for (String face : wanted) {
            due.no("private method named like " + face, hidden.contains(face.split(" ")[1]));
        }
    }

    private static void fields() {
        Set<String> open = new TreeSet<>();
        int own = 0;
        for (Field field : CoroutineFrames.class.getDeclaredFields()) {
            int modifiers = field.getModifiers();
            if (!Modifier.isPrivate(modifiers)) {
                open.add(field.getName());
                due.yes(field + " is a public constant", Modifier.isPublic(modifiers)
                        && Modifier.isStatic(modifiers) && Modifier.isFinal(modifiers) && field.getType() == int.class);
            }
            if (Modifier.isStatic(modifiers)) {
                due.yes(field + " is a number", field.getType() == int.class || field.getType() == long.class);
                due.yes(field + " is constant", Modifier.isFinal(modifiers));
            } else {
                own++;
            }
        }
        due.same("visible fields", open.size(), 9);
        due.yes("at most forty fields", own <= 40);
    }
}
