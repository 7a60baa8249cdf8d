import java.lang.reflect.Constructor;
import java.lang.reflect.Field;
import java.lang.reflect.Method;
import java.lang.reflect.Modifier;
import java.util.Arrays;
import java.util.TreeSet;

/** The class's face: just the constants, the constructor and the methods of the document, all else private. */
public final class FaceTest {
    private static final String[] METHODS = {
        "write 1", "wipe 0", "fault 0", "lay 0", "root 2", "reader 2", "reading 3", "word 3", "tells 2",
        "ask 1", "shut 0", "carve 1", "rub 0", "pass 1", "undo 0",
        "belief 3", "without 1", "shortest 2", "until 1", "enough 2",
        "see 2", "forget 0", "wrote 1",
        "forgotten 3", "walls 4", "keep 0", "back 0", "count 1"};

    public static void main(String[] args) throws IllegalAccessException {
        constants();
        methods();
        Class<?> face = WallReadings.class;
        Due.is("public and final", face.getModifiers() & (Modifier.PUBLIC | Modifier.FINAL), Modifier.PUBLIC | Modifier.FINAL);
        Due.is("constructors", face.getDeclaredConstructors().length, 1);
        for (Constructor<?> constructor : face.getDeclaredConstructors()) {
            Due.is("public constructor", Modifier.isPublic(constructor.getModifiers()) ? constructor.getParameterCount() : -1, 0);
        }
        for (Class<?> inner : face.getDeclaredClasses()) {
            Due.is("private and static: " + inner.getName(), inner.getModifiers() & (Modifier.PRIVATE | Modifier.STATIC), Modifier.PRIVATE | Modifier.STATIC);
        }
        Due.end("FaceTest");
    }

    private static void constants() throws IllegalAccessException {
        Due.is("BAD", WallReadings.BAD, -1);
        Due.is("NO", WallReadings.NO, -2);
        Due.is("FULL", WallReadings.FULL, -3);
        Due.is("NONE", WallReadings.NONE, -4);
        int constants = 0;
        for (Field field : WallReadings.class.getDeclaredFields()) {
            int modifiers = field.getModifiers();
            if (Modifier.isPublic(modifiers)) {
                constants++;
                Due.is("constant " + field.getName(), Modifier.isStatic(modifiers) && Modifier.isFinal(modifiers) && field.getInt(null) < 0 ? 1 : 0, 1);
            } else {
                Due.is("private " + field.getName(), Modifier.isPrivate(modifiers) ? 1 : 0, 1);
            }
            Due.is("no static that changes: " + field.getName(), Modifier.isStatic(modifiers) && !Modifier.isFinal(modifiers) ? 1 : 0, 0);
        }
        Due.is("public constants", constants, 4);
    }

    private static void methods() {
        TreeSet<String> due = new TreeSet<>(Arrays.asList(METHODS));
        TreeSet<String> names = new TreeSet<>();
        for (String method : METHODS) {
            names.add(method.substring(0, method.indexOf(' ')));
        }
        TreeSet<String> found = new TreeSet<>();
        for (Method method : WallReadings.class.getDeclaredMethods()) {
            if (Modifier.isPublic(method.getModifiers())) {
                found.add(method.getName() + " " + method.getParameterCount());
                Due.is("an int: " + method.getName(), method.getReturnType() == int.class && !Modifier.isStatic(method.getModifiers()) ? 1 : 0, 1);
                for (Class<?> type : method.getParameterTypes()) {
                    Due.is("of ints: " + method.getName(), type == int.class ? 1 : 0, 1);
                }
            } else {
                Due.is("private, of another name: " + method.getName(), Modifier.isPrivate(method.getModifiers()) && !names.contains(method.getName()) ? 1 : 0, 1);
            }
        }
        Due.is("the document's methods: " + found, found.equals(due) ? 1 : 0, 1);
    }
}
