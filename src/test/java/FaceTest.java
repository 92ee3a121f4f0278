import java.lang.reflect.Constructor;
import java.lang.reflect.Field;
import java.lang.reflect.Method;
import java.lang.reflect.Modifier;
import java.util.ArrayList;
import java.util.Arrays;
import java.util.List;

/** The document's public face, and no other. */
final class FaceTest {
    private static final String[] FACE = {
        "hears 1", "frames 2", "loses 1", "needs 1", "drifts 1", "sets 0", "goes 1", "undo 0", "symbol 1",
        "read 2", "vote 1", "misses 4", "close 2", "bits 4", "clock 1", "keep 1", "back 1", "count 1"};

    public static void main(String[] args) {
        constants();
        methods();
        constructors();
        fields();
        Due.end();
    }

    private static void constants() {
        Due.is("BAD", MinuteSignal.BAD, -1);
        Due.is("STATE", MinuteSignal.STATE, -2);
        Due.is("FULL", MinuteSignal.FULL, -3);
        Due.is("NONE", MinuteSignal.NONE, -9);
        Due.is("NO", MinuteSignal.NO, -1000000);
    }

    private static void methods() {
        List<String> open = new ArrayList<>();
        for (Method method : MinuteSignal.class.getDeclaredMethods()) {
            String name = method.getName();
            if (Modifier.isPrivate(method.getModifiers())) {
                for (String face : FACE) {
                    Due.isTrue("private " + name + " has a name of its own", !face.startsWith(name + " "));
                }
                continue;
            }
            Due.isTrue(name + " is public", Modifier.isPublic(method.getModifiers()));
            Due.isTrue(name + " is no static one", !Modifier.isStatic(method.getModifiers()));
            Due.isTrue(name + " answers an int", method.getReturnType() == int.class);
            open.add(name + " " + method.getParameterCount());
        }
        List<String> due = new ArrayList<>(Arrays.asList(FACE));
        open.sort(null);
        due.sort(null);
        Due.isTrue("the face is " + due + ", and " + open, open.equals(due));
    }

    private static void constructors() {
        Constructor<?>[] all = MinuteSignal.class.getDeclaredConstructors();
        Due.is("constructors", all.length, 1);
        Due.is("parameters of the constructor", all[0].getParameterCount(), 0);
        Due.isTrue("the constructor is public", Modifier.isPublic(all[0].getModifiers()));
        int modifiers = MinuteSignal.class.getModifiers();
        Due.isTrue("the class is public and final", Modifier.isPublic(modifiers) && Modifier.isFinal(modifiers));
    }

    private static void fields() {
        List<String> constants = Arrays.asList("BAD", "STATE", "FULL", "NONE", "NO");
        for (Field field : MinuteSignal.class.getDeclaredFields()) {
            boolean isConstant = constants.contains(field.getName());
            Due.isTrue(field.getName() + " is private, or public where the document has it",
                    isConstant ? Modifier.isPublic(field.getModifiers()) : Modifier.isPrivate(field.getModifiers()));
        }
        for (Class<?> inside : MinuteSignal.class.getDeclaredClasses()) {
            Due.isTrue(inside.getName() + " is static", Modifier.isStatic(inside.getModifiers()));
            for (Field field : inside.getDeclaredFields()) {
                boolean isStatic = Modifier.isStatic(field.getModifiers());
                Due.isTrue(field + " is final if static", !isStatic || Modifier.isFinal(field.getModifiers()));
            }
        }
    }
}
