import java.util.ArrayList;
import java.util.List;

/** What the tests share: answers that are due, and objects with a TEXT laid. */
final class Due {
    static final int BAD = -1, NO = -2, FULL = -3, NONE = -4;

    private static final List<String> wrong = new ArrayList<>();
    private static int looked;

    private Due() {
    }

    static void is(String call, long got, long due) {
        looked++;
        if (got != due) {
            wrong.add(call + " answered " + got + ", due is " + due);
        }
    }

    static void is(String what, boolean got, boolean due) {
        is(what + " (1: so)", got ? 1 : 0, due ? 1 : 0);
    }

    /** The answers of one call for several arguments, one behind the other. */
    static void are(String call, int[] got, int... due) {
        is(call + ": how many", got.length, due.length);
        for (int i = 0; i < Math.min(got.length, due.length); i++) {
            is(call + " [" + i + "]", got[i], due[i]);
        }
    }

    static int looked() {
        return looked;
    }

    static boolean anyWrong() {
        return !wrong.isEmpty();
    }

    static void end(String test) {
        for (int i = 0; i < Math.min(40, wrong.size()); i++) {
            System.out.println(test + ": " + wrong.get(i));
        }
        System.out.println(test + ": " + looked + " answers, " + wrong.size() + " not as due");
        if (anyWrong()) {
            System.exit(1);
        }
    }

    static void write(WallReadings x, String text) {
        for (int i = 0; i < text.length(); i++) {
            is("write in " + text, x.write(text.charAt(i)), x.count(12));
        }
    }

    /** An object with this TEXT laid; the TEXT is wiped then. */
    static WallReadings laid(String text) {
        WallReadings x = new WallReadings();
        write(x, text);
        int roots = 0;
        for (String item : text.split(";")) {
            roots += item.startsWith("r") ? 1 : 0;
        }
        is("lay of " + text, x.lay(), roots);
        is("wipe of " + text, x.wipe(), text.length());
        return x;
    }

    /** All that count tells, 0 to 12. */
    static int[] counts(WallReadings x) {
        int[] counts = new int[13];
        for (int what = 0; what < 13; what++) {
            counts[what] = x.count(what);
        }
        return counts;
    }
}
