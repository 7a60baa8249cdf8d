import java.lang.reflect.InvocationTargetException;
import java.lang.reflect.Method;
import java.util.Arrays;

/**
 * Every call of the face, with every mixture of odd and ordinary numbers, in every scene: it never throws,
 * and below 0 it answers nothing but what the document names for that call.
 */
public final class AnyCallTest {
    /** The calls, by the document's promises, and what each may answer below 0. */
    private static final String[] FACE = {
        "write BAD FULL", "wipe", "fault NONE", "lay NO", "root BAD", "reader BAD", "reading BAD", "word NONE BAD", "tells NONE BAD",
        "ask BAD NO", "shut NO", "carve BAD FULL", "rub NO", "pass BAD", "undo NO",
        "belief BAD", "without NONE BAD", "shortest NONE BAD", "until NONE BAD", "enough NONE BAD",
        "see BAD FULL", "forget", "wrote BAD NONE",
        "forgotten BAD", "walls BAD", "keep FULL", "back NO", "count BAD"};
    private static final Integer[] NUMBERS = {
        Integer.MIN_VALUE, Integer.MIN_VALUE + 2, -1, 0, 1, 2, 3, 5, 14, 40, 126, 10000, 65536, Integer.MAX_VALUE};
    private static final int CALLS = 250;

    private static Scenes.Scene scene;
    private static WallReadings wall;
    private static int calls;

    public static void main(String[] args) throws IllegalAccessException {
        int found = 0;
        for (String line : FACE) {
            for (Method method : WallReadings.class.getMethods()) {
                if (method.getName().equals(line.split(" ")[0])) {
                    found++;
                    inEachScene(method, line);
                }
            }
        }
        Due.is("calls of the face", found, FACE.length);
        Due.end("AnyCallTest");
    }

    private static void inEachScene(Method method, String line) throws IllegalAccessException {
        for (Scenes.Scene each : Scenes.Scene.values()) {
            scene = each;
            wall = each.make();
            calls = 0;
            // Without numbers the same call again and again: what there is to take away is gone then, or all is full.
            int times = method.getParameterCount() == 0 ? 12 : 1;
            for (int n = 0; n < times; n++) {
                withEach(method, line, new Object[method.getParameterCount()], 0);
            }
        }
    }

    private static void withEach(Method method, String line, Object[] arguments, int at) throws IllegalAccessException {
        if (at == arguments.length) {
            one(method, line, arguments);
            return;
        }
        for (Integer number : NUMBERS) {
            arguments[at] = number;
            withEach(method, line, arguments, at + 1);
        }
    }

    private static void one(Method method, String line, Object[] arguments) throws IllegalAccessException {
        // An object is used for 512 calls, those of its scene (some 230 at most) among them.
        if (calls == CALLS) {
            wall = scene.make();
            calls = 0;
        }
        calls++;
        String call = method.getName() + Arrays.toString(arguments) + " in " + scene;
        try {
            int answer = (Integer) method.invoke(wall, arguments);
            Due.is(call + " answered " + answer + ", may be", answer >= 0 || isNamed(line, answer), true);
        } catch (InvocationTargetException thrown) {
            Due.is(call + " threw " + thrown.getCause(), false, true);
        }
    }

    private static boolean isNamed(String line, int answer) {
        String[] names = {"", "BAD", "NO", "FULL", "NONE"};
        return answer >= -4 && (line + " ").contains(" " + names[-answer] + " ");
    }
}
