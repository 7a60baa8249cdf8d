/** The edges that promises 22 to 24 name, and what Terms say of SEEN and WROTE. */
public final class SeenEdgesTest {
    private static final int MIN = Integer.MIN_VALUE, MAX = Integer.MAX_VALUE;
    private static final String KINDS = "k0,1,1;k1,1,1;k2,1,1;k3,1,1;k4,1,1;";

    public static void main(String[] args) {
        seeIsOfReadersSuchAsThereAre();
        seeIsOfWeights0To600();
        seenAre6AtMost();
        seenTooMuchCountsForNothing();
        forgetOfNoneOneAndAll();
        wroteRefuses();
        wroteOfNothingSeen();
        wroteOfNoRow();
        wroteIsOfOneToFourLetters();
        wroteIsTheFirstOfTheShortest();
        wroteIsOfAllThatIsSeen();
        wroteIsOfWhatIsTold();
        whoHasNoReadingTellsNothing();
        wroteIsWhateverIsWritten();
        seenStaysButForLayAndForget();
        Due.end("SeenEdgesTest");
    }

    private static void wroteIs(String when, WallReadings x, int rows, int first) {
        Due.is("wrote(0), " + when, x.wrote(0), rows);
        Due.is("wrote(1), " + when, x.wrote(1), first);
    }

    // ---- promise 22

    private static void seeIsOfReadersSuchAsThereAre() {
        int[] readers = {-1, 5, 6, MIN, MAX};
        for (int k : readers) {
            Scenes.refuse("see(" + k + ", 0)", x -> x.see(k, 0), Due.BAD);
        }
        Scenes.refuse("see(as many, 0)", x -> x.see(x.count(1), 0), Due.BAD);
        WallReadings x = new WallReadings();
        Due.is("see(4, 0), the last", x.see(4, 0), 1);
        Due.is("see(0, 0), the first", x.see(0, 0), 2);
    }

    /** "w (0 to 600)". */
    private static void seeIsOfWeights0To600() {
        int[] none = {-1, 601, 602, MIN, MAX};
        for (int w : none) {
            Scenes.refuse("see(0, " + w + ")", x -> x.see(0, w), Due.BAD);
        }
        int[] weights = {0, 1, 599, 600};
        for (int w : weights) {
            Due.is("see(0, " + w + "), new", new WallReadings().see(0, w), 1);
            Due.is("see(0, " + w + "), behind one", Scenes.Scene.FALLEN.make().see(0, w), 2);
        }
    }

    /** "SEEN (6 at most)"; BAD ahead of FULL. */
    private static void seenAre6AtMost() {
        WallReadings x = new WallReadings();
        for (int n = 1; n <= 6; n++) {
            Due.is("see, the " + n + "th", x.see(n % 5, n), n);
            Due.is("count(9)", x.count(9), n);
        }
        Due.is("see, the 7th", x.see(0, 1), Due.FULL);
        Due.is("see, the 7th like the 1st", x.see(1, 1), Due.FULL);
        Due.is("count(9)", x.count(9), 6);
        for (Scenes.Scene scene : Scenes.Scene.values()) {
            WallReadings y = scene.make();
            for (int n = y.count(9) + 1; n <= 6; n++) {
                Due.is("see, the " + n + "th in " + scene, y.see(0, 600), n);
            }
            Due.is("see, the 7th in " + scene, y.see(0, 600), Due.FULL);
            Due.is("forget in " + scene, y.forget(), 6);
        }
        Scenes.refuseIn(Scenes.Scene.FULL, "see(0, 0), full", y -> y.see(0, 0), Due.FULL);
        Scenes.refuseIn(Scenes.Scene.FULL, "see(4, 600), full", y -> y.see(4, 600), Due.FULL);
        Scenes.refuseIn(Scenes.Scene.FULL, "see(0, 601), full", y -> y.see(0, 601), Due.BAD);
        Scenes.refuseIn(Scenes.Scene.FULL, "see(0, -1), full", y -> y.see(0, -1), Due.BAD);
        Scenes.refuseIn(Scenes.Scene.FULL, "see(5, 0), full", y -> y.see(5, 0), Due.BAD);
        Scenes.refuseIn(Scenes.Scene.FULL, "see(-1, 0), full", y -> y.see(-1, 0), Due.BAD);
        Due.is("forget", x.forget(), 6);
        Due.is("see behind forget", x.see(0, 1), 1);
        Due.is("see behind forget", x.see(0, 1), 2);
    }

    private static void seenTooMuchCountsForNothing() {
        WallReadings x = Due.laid("ra,1,0;k0,1,1;");
        for (int n = 0; n < 6; n++) {
            x.see(0, 2);
        }
        wroteIs("aa alone", x, 1, 7);
        x.see(0, 3);
        x.see(0, 601);
        wroteIs("aa alone, whatever was refused", x, 1, 7);
    }

    // ---- promise 23

    private static void forgetOfNoneOneAndAll() {
        for (int seen = 0; seen <= 6; seen++) {
            WallReadings x = new WallReadings();
            for (int n = 0; n < seen; n++) {
                x.see(0, 600);
            }
            Due.is("forget of " + seen, x.forget(), seen);
            Due.is("count(9) behind it", x.count(9), 0);
            wroteIs("forgotten " + seen, x, 780, 1);
            Due.is("forget again", x.forget(), 0);
        }
        for (Scenes.Scene scene : Scenes.Scene.values()) {
            WallReadings x = scene.make();
            int[] due = Due.counts(x);
            Due.is("forget in " + scene, x.forget(), due[9]);
            due[9] = 0;
            Due.are("counts behind forget in " + scene, Due.counts(x), due);
        }
    }

    // ---- promise 24

    private static void wroteRefuses() {
        int[] whats = {-1, 2, 3, MIN, MAX};
        for (int what : whats) {
            Scenes.refuse("wrote(" + what + ")", x -> x.wrote(what), Due.BAD);
        }
        Scenes.look("wrote(0)", x -> x.wrote(0));
        Scenes.look("wrote(1)", x -> x.wrote(1));
    }

    /** All rows of 1 to 4 LETTERS are so that nothing is amiss: 5 and 25 and 125 and 625. */
    private static void wroteOfNothingSeen() {
        wroteIs("new", new WallReadings(), 780, 1);
        wroteIs("fewest roots", Due.laid("re,1,0;k1,1,1;"), 780, 1);
        WallReadings x = Scenes.Scene.FULL.make();
        x.forget();
        wroteIs("forgotten", x, 780, 1);
    }

    /** "how many (what = 0), the first (1; NONE)": of no row it is 0 and NONE. */
    private static void wroteOfNoRow() {
        WallReadings x = Due.laid("ra,1,0;k0,1,1;");
        x.see(0, 5);
        wroteIs("a row of five", x, 0, Due.NONE);
        Due.is("wrote(2), no row", x.wrote(2), Due.BAD);
        Due.is("wrote(-1), no row", x.wrote(-1), Due.BAD);
        x.forget();
        x.see(0, 600);
        wroteIs("600", x, 0, Due.NONE);
        x.forget();
        x.see(0, 0);
        wroteIs("0", x, 0, Due.NONE);
    }

    private static void wroteIsOfOneToFourLetters() {
        int[] firsts = {1, 7, 43, 259};
        int[] lasts = {5, 35, 215, 1295};
        for (int n = 1; n <= 4; n++) {
            WallReadings x = Due.laid("ra,60,0;k0,1,1;k3,1,1;");
            x.see(0, 60 * n);
            wroteIs(n + " a", x, 1, firsts[n - 1]);
            x = Due.laid("re,60,0;k0,1,1;k3,1,1;");
            x.see(1, 60 * n);
            wroteIs(n + " e", x, 1, lasts[n - 1]);
        }
        WallReadings x = Due.laid("ra,60,0;k0,1,1;");
        x.see(0, 241);
        wroteIs("241", x, 0, Due.NONE);
        x = Due.laid("ra,60,0;k0,1,1;");
        x.see(0, 300);
        wroteIs("five", x, 0, Due.NONE);
        x = Due.laid("ra,1,0;rb,1,0;rc,1,0;rd,1,0;re,1,0;k0,1,1;");
        int[] rows = {5, 25, 125, 625};
        for (int n = 1; n <= 4; n++) {
            x.see(0, n);
            wroteIs("rows of " + n, x, rows[n - 1], firsts[n - 1]);
            x.forget();
        }
    }

    /** "the first (the shortest, by their LETTERS)". */
    private static void wroteIsTheFirstOfTheShortest() {
        WallReadings x = Due.laid("ra,1,0;re,3,0;k0,1,1;");
        x.see(0, 3);
        wroteIs("e, aaa", x, 2, 5);
        x = Due.laid("ra,1,0;rb,3,0;rc,2,0;k0,1,1;");
        x.see(0, 4);
        // ab, ba, cc; aac, aca, caa; aaaa
        wroteIs("ab first", x, 7, 8);
        x = Due.laid("rdc,4,0;rcd,4,0;reaa,4,0;k0,1,1;");
        x.see(0, 4);
        wroteIs("cd, dc, eaa", x, 3, 3 * 6 + 4);
        x = Due.laid("rabe,4,0;rabd,4,0;raca,4,0;k0,1,1;");
        x.see(0, 4);
        wroteIs("abd, abe, aca", x, 3, 36 + 2 * 6 + 4);
    }

    /** "rows .. of which all that is SEEN would be so". */
    private static void wroteIsOfAllThatIsSeen() {
        // Backwards a is told of ab; of nouns alone there are b, ab, ba, bb ..
        WallReadings x = Due.laid("ra,1,0;rab,5,0;rb,2,0;k0,1,1;k3,1,1;k1,1,1;");
        x.see(0, 3);
        // ab by a b, ba by b a, aaa
        wroteIs("the scribe's 3", x, 3, 8);
        x.see(2, 5);
        // Of ab alone the COUNTER tells 5.
        wroteIs("the scribe's 3, the counter's 5", x, 1, 8);
        x.see(1, 3);
        // The CHILD reads ba, b a.
        wroteIs("and the child's 3", x, 1, 8);
        x.see(1, 5);
        wroteIs("and the child's 5 too", x, 0, Due.NONE);
        x.forget();
        x.see(1, 5);
        // The CHILD's last of ab is ab: ba. bb with a, in any order, read as a bb, bab, bb a backwards; abaa ..
        Due.is("the child's 5 of ba", x.wrote(1), 13);
        x.see(0, 3);
        wroteIs("the child's 5, the scribe's 3", x, 1, 13);
        x.see(0, 3);
        x.see(0, 3);
        x.see(1, 5);
        x.see(1, 5);
        wroteIs("the same again", x, 1, 13);
        Due.is("the 6 of them", x.count(9), 6);
    }

    private static void wroteIsOfWhatIsTold() {
        // Of a a NOUN is told by the SCRIBE, a VERB by the PROPHET, by the CHILD and by the QUEEN.
        WallReadings x = Due.laid("ra,7,1;" + KINDS);
        int[] rows = {0, 0, 1, 1, 1};
        for (int k = 0; k < 5; k++) {
            x.see(k, 0);
            wroteIs("0 by " + k, x, rows[k], rows[k] == 1 ? 1 : Due.NONE);
            x.forget();
            x.see(k, 7);
            // Of a; of aa A a, a A; of aa and aaa too.
            int[] due = {1, 1, 2, 2, 1};
            int[] first = {1, 1, 7, 7, 7};
            wroteIs("7 by " + k, x, due[k], first[k]);
            x.forget();
        }
    }

    /** Who has no READING of a row TELLS nothing: that WEIGHS nothing, not 0. */
    private static void whoHasNoReadingTellsNothing() {
        WallReadings x = Due.laid("rb,0,1;ra,2,0;" + KINDS);
        for (int k = 0; k < 5; k++) {
            x.see(k, 0);
            wroteIs("0 by " + k, x, k == 1 ? 0 : 1, k == 1 ? Due.NONE : 2);
            x.forget();
        }
        x.see(0, 2);
        // a, ab, ba, bab
        wroteIs("2 by the scribe", x, 4, 1);
        x.see(2, 2);
        wroteIs("2 by the prophet", x, 3, 8);
        x.see(4, 2);
        wroteIs("2 by the queen", x, 2, 8);
        x.see(1, 2);
        wroteIs("2 by the counter too", x, 0, Due.NONE);
    }

    private static void wroteIsWhateverIsWritten() {
        WallReadings x = Due.laid("ra,1,0;k0,1,1;");
        x.see(0, 1);
        wroteIs("nothing written", x, 1, 1);
        x.carve(4);
        wroteIs("e written", x, 1, 1);
        x.carve(0);
        x.pass(24);
        x.ask(0);
        wroteIs("behind FALL", x, 1, 1);
    }

    private static void seenStaysButForLayAndForget() {
        WallReadings x = Due.laid("ra,1,0;rb,2,0;k0,1,1;wab;");
        x.see(0, 1);
        x.pass(1);
        x.keep();
        x.see(0, 1);
        x.carve(0);
        x.rub();
        x.undo();
        x.undo();
        x.undo();
        wroteIs("behind undo", x, 1, 1);
        Due.is("count(9) behind undo", x.count(9), 2);
        x.back();
        Due.is("count(9) behind back", x.count(9), 2);
        Scenes.put(x, "rb,1,0;k0,1,1;z");
        x.lay();
        Due.is("count(9) behind lay that is NO", x.count(9), 2);
        x.wipe();
        Scenes.put(x, "rb,1,0;k0,1,1;");
        x.lay();
        Due.is("count(9) behind lay", x.count(9), 0);
        wroteIs("behind lay", x, 780, 1);
        x.see(0, 1);
        wroteIs("b", x, 1, 2);
    }
}
