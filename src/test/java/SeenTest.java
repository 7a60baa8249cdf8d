/** Promises 22 to 24: what was seen, and what may have been written by it. */
public final class SeenTest {
    public static void main(String[] args) {
        see();
        forget();
        wrote();
        wroteByWhatIsTold();
        seenByChild();
        seenStays();
        Due.end("SeenTest");
    }

    private static void see() {
        WallReadings x = Due.laid("ra,1,1;k0,1,1;k1,1,1;");
        int[][] bad = {{2, 0}, {-1, 0}, {0, -1}, {0, 601}, {Integer.MIN_VALUE, 0}, {0, Integer.MAX_VALUE}};
        for (int[] call : bad) {
            Due.is("see(" + call[0] + ", " + call[1] + ")", x.see(call[0], call[1]), Due.BAD);
        }
        Due.is("see(0, 0)", x.see(0, 0), 1);
        Due.is("see(1, 600)", x.see(1, 600), 2);
        for (int n = 3; n <= 6; n++) {
            Due.is("see, the " + n + "th", x.see(0, 1), n);
        }
        Due.is("see, full", x.see(0, 1), Due.FULL);
        Due.is("see(0, 601), full", x.see(0, 601), Due.BAD);
        Due.is("count(9)", x.count(9), 6);
    }

    private static void forget() {
        WallReadings x = new WallReadings();
        Due.is("forget, nothing", x.forget(), 0);
        x.see(0, 1);
        x.see(0, 2);
        Due.is("wrote of what can't be", x.wrote(0), 0);
        Due.is("forget", x.forget(), 2);
        Due.is("count(9)", x.count(9), 0);
        Due.is("wrote behind forget", x.wrote(0), 780);
        Due.is("see behind forget", x.see(0, 1), 1);
    }

    private static void wroteIs(WallReadings x, int rows, int first) {
        Due.is("wrote(0)", x.wrote(0), rows);
        Due.is("wrote(1)", x.wrote(1), first);
    }

    private static void wrote() {
        WallReadings x = Due.laid("ra,1,0;rb,2,0;re,3,0;k0,1,1;k2,1,1;");
        wroteIs(x, 780, 1);
        int[] bad = {-1, 2, Integer.MIN_VALUE, Integer.MAX_VALUE};
        for (int what : bad) {
            Due.is("wrote(" + what + ")", x.wrote(what), Due.BAD);
        }
        x.see(0, 3);
        // e, ab, ba, aaa
        wroteIs(x, 4, 5);
        x.see(0, 3);
        wroteIs(x, 4, 5);
        x.see(0, 4);
        wroteIs(x, 0, Due.NONE);
        x.forget();
        x.see(0, 12);
        wroteIs(x, 1, 1295);
        x.forget();
        // Who has no READING tells nothing, and what he tells does not WEIGH 0 either.
        x.see(1, 0);
        wroteIs(x, 0, Due.NONE);
        x.forget();
        x.see(0, 13);
        wroteIs(x, 0, Due.NONE);
    }

    private static void wroteByWhatIsTold() {
        // A SCRIBE tells a a (2) of aa, a COUNTER aa (5), a PROPHET A a (1), a QUEEN a A (1).
        WallReadings x = Due.laid("ra,1,2;raa,5,0;k0,1,1;k1,1,1;k2,1,1;k4,1,1;");
        x.see(0, 2);
        wroteIs(x, 1, 7);
        x.see(1, 5);
        wroteIs(x, 1, 7);
        x.see(2, 1);
        wroteIs(x, 1, 7);
        x.see(3, 1);
        wroteIs(x, 1, 7);
        x.see(0, 5);
        wroteIs(x, 0, Due.NONE);
        x.forget();
        x.see(1, 10);
        wroteIs(x, 1, 7 * 36 + 7);
        x.forget();
        // A alone, of a, WEIGHS 0.
        x.see(2, 0);
        wroteIs(x, 1, 1);
    }

    private static void seenByChild() {
        WallReadings x = Due.laid("rab,7,0;ra,1,0;k3,1,1;k0,1,1;");
        x.see(0, 7);
        // The CHILD reads ba as ab; the SCRIBE has no READING of ba.
        wroteIs(x, 1, 13);
        x.see(1, 7);
        wroteIs(x, 0, Due.NONE);
        x.forget();
        x.see(0, 8);
        wroteIs(x, 2, 49);
    }

    private static void seenStays() {
        WallReadings x = Due.laid("ra,1,0;k0,1,1;wa;");
        x.see(0, 1);
        x.keep();
        x.see(0, 1);
        x.carve(0);
        x.undo();
        Due.is("count(9) behind undo", x.count(9), 2);
        x.back();
        Due.is("count(9) behind back", x.count(9), 2);
        x.rub();
        Due.is("wrote, whatever the writing", x.wrote(1), 1);
        Due.write(x, "rb,1,0;k0,1,1;");
        x.lay();
        Due.is("count(9) behind lay", x.count(9), 0);
        Due.is("forget behind lay", x.forget(), 0);
    }
}
