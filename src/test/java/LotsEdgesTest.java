/** The edges that promises 25 to 29 name, what Terms say of FORGOTTEN, WALLS and KEPT, and which of BAD, NO, NONE and FULL is the first. */
public final class LotsEdgesTest {
    private static final int MIN = Integer.MIN_VALUE, MAX = Integer.MAX_VALUE;
    private static final String KINDS = "k0,1,1;k1,1,1;k2,1,1;k3,1,1;k4,1,1;";
    /** The walls of the lowest and the highest numbers, made by hand. */
    private static final String WALLS_OF_0 =
        "aa beec eeca edee baa ecde a c adab bcd dcee d dbcb bae b c a a bde eacc a becd aab b d c d aed edca abaa dbbb dea edde d d eddb dd dbbe abab edce";
    private static final String WALLS_OF_9999 =
        "aadc d c d adbe a bb eb e aac dcbc e abba ebb a c b bcbb eae daab eced cdcd ca daed c c daab ca ccb ebc deb e bbb abba bdee ecb e ae da da";

    public static void main(String[] args) {
        forgottenRefuses();
        forgottenOfNoneAndOfTen();
        forgottenIsZeroWithoutAReading();
        forgottenIsInLowestTerms();
        forgottenIsEachForItself();
        forgottenIsForTheReader();
        forgottenOfEightRoots();
        wallsRefuse();
        wallsOfTheLowestNumber();
        wallsOfTheHighestNumber();
        wallsOneToForty();
        wallsAreReadByTheReader();
        wallsAreWhateverIsWritten();
        keptAre2AtMost();
        keepIsNothingToUndo();
        keptIsAllAsItStands();
        backIsNoOfNoneKept();
        backIsToTheLastKept();
        backLeavesWhatIsSeenAndTheText();
        behindBackNothingCanBeUndone();
        undoGoesPastKeep();
        layKeepsNoneKept();
        countRefuses();
        countsOfEach();
        townIsFallenOrShutOrNeither();
        badIsTheFirst();
        Due.end("LotsEdgesTest");
    }

    // ---- promise 25

    private static void forgottenIs(WallReadings x, int k, int lost, int above, int below) {
        Due.is("forgotten(" + k + ", " + lost + ", 0)", x.forgotten(k, lost, 0), above);
        Due.is("forgotten(" + k + ", " + lost + ", 1)", x.forgotten(k, lost, 1), below);
    }

    private static void forgottenRefuses() {
        int[] readers = {-1, 5, 6, MIN, MAX};
        for (int k : readers) {
            Scenes.refuse("forgotten(" + k + ", 5, 0)", x -> x.forgotten(k, 5, 0), Due.BAD);
        }
        Scenes.refuse("forgotten(as many, 5, 0)", x -> x.forgotten(x.count(1), 5, 0), Due.BAD);
        int[] tenths = {-1, 11, 12, MIN, MAX};
        for (int lost : tenths) {
            Scenes.refuse("forgotten(0, " + lost + ", 0)", x -> x.forgotten(0, lost, 0), Due.BAD);
        }
        int[] parts = {-1, 2, MIN, MAX};
        for (int part : parts) {
            Scenes.refuse("forgotten(0, 5, " + part + ")", x -> x.forgotten(0, 5, part), Due.BAD);
        }
        for (int lost = 0; lost <= 10; lost++) {
            int l = lost;
            Scenes.look("forgotten(0, " + l + ", 0)", x -> x.forgotten(0, l, 0));
            Scenes.look("forgotten(last, " + l + ", 1)", x -> x.forgotten(x.count(1) - 1, l, 1));
        }
    }

    /** "x (0 to 10) of ten": by 0 all are known, by 10 none. */
    private static void forgottenOfNoneAndOfTen() {
        WallReadings x = new WallReadings();
        for (int k = 0; k < 5; k++) {
            forgottenIs(x, k, 0, 1, 1);
            forgottenIs(x, k, 10, 0, 1);
        }
        x = Due.laid("ra,1,1;" + KINDS + "wa;");
        int[] above = {1, 9, 4, 7, 3, 1, 2, 3, 1, 1, 0};
        int[] below = {1, 10, 5, 10, 5, 2, 5, 10, 5, 10, 1};
        for (int lost = 0; lost <= 10; lost++) {
            for (int k = 0; k < 5; k++) {
                forgottenIs(x, k, lost, above[lost], below[lost]);
            }
        }
    }

    private static void forgottenIsZeroWithoutAReading() {
        WallReadings x = Due.laid("ra,1,0;" + KINDS);
        for (int lost = 0; lost <= 10; lost++) {
            for (int k = 0; k < 5; k++) {
                forgottenIs(x, k, lost, 0, 1);
            }
        }
        x.carve(0);
        forgottenIs(x, 0, 0, 1, 1);
        forgottenIs(x, 2, 0, 0, 1);
        forgottenIs(x, 4, 5, 0, 1);
        x.carve(4);
        forgottenIs(x, 0, 0, 0, 1);
        forgottenIs(x, 0, 1, 0, 1);
    }

    private static void forgottenIsInLowestTerms() {
        WallReadings x = Due.laid("ra,1,0;rb,1,0;" + KINDS + "wab;");
        int[] above = {1, 81, 16, 49, 9, 1, 4, 9, 1, 1, 0};
        int[] below = {1, 100, 25, 100, 25, 4, 25, 100, 25, 100, 1};
        for (int lost = 0; lost <= 10; lost++) {
            forgottenIs(x, 0, lost, above[lost], below[lost]);
        }
    }

    /** "each ROOT is not known by x of ten, for itself": one ROOT twice is one; one that is not needed is nothing. */
    private static void forgottenIsEachForItself() {
        WallReadings x = Due.laid("ra,1,1;rb,1,1;rcd,1,1;" + KINDS + "waaaa;");
        forgottenIs(x, 0, 5, 1, 2);
        x = Due.laid("ra,1,0;raa,1,0;" + KINDS + "waa;");
        // a or aa: 1 less 9/100
        forgottenIs(x, 0, 3, 91, 100);
        forgottenIs(x, 0, 5, 3, 4);
        x = Due.laid("rab,1,0;rc,1,0;ra,1,0;rbc,1,0;" + KINDS + "wabc;");
        // ab and c, or a and bc: 1/4 + 1/4 - 1/16
        forgottenIs(x, 0, 5, 7, 16);
        x = Due.laid("rab,1,0;rb,1,0;ra,1,0;" + KINDS + "wab;");
        // ab, or a and b: 7/10 + 3/10 49/100
        forgottenIs(x, 0, 3, 847, 1000);
    }

    private static void forgottenIsForTheReader() {
        WallReadings x = Due.laid("ra,1,0;rb,0,1;rab,1,0;rba,1,0;" + KINDS + "wab;");
        // a B, or ab; backwards B a, or ba.
        forgottenIs(x, 0, 5, 5, 8);
        forgottenIs(x, 1, 5, 1, 2);
        forgottenIs(x, 2, 5, 1, 4);
        forgottenIs(x, 3, 5, 5, 8);
        forgottenIs(x, 4, 5, 1, 4);
        x = Due.laid("rab,1,0;" + KINDS + "wab;");
        forgottenIs(x, 0, 1, 9, 10);
        forgottenIs(x, 3, 1, 0, 1);
    }

    private static void forgottenOfEightRoots() {
        // One of eight is needed, the others are nothing to it.
        WallReadings x = Due.laid("rabc,1,0;rbca,1,0;rcab,1,0;rbc,1,0;rca,1,0;ra,1,0;rb,1,0;rc,1,0;" + KINDS + "wb;");
        forgottenIs(x, 0, 3, 7, 10);
        x = Due.laid("ra,1,0;rb,1,0;rc,1,0;rd,1,0;re,1,0;rab,1,0;rcd,1,0;rabc,1,0;" + KINDS + "wabcde;");
        // e, and ab (5/8) and cd (5/8), each by one ROOT or by two, or else abc and d: 1/2 (25/64 + 1/4 17/32).
        forgottenIs(x, 0, 5, 67, 256);
        x = Due.laid("raa,1,0;rbb,1,0;rcc,1,0;rdd,1,0;ra,1,0;rb,1,0;rc,1,0;rd,1,0;" + KINDS + "waabbccdd;");
        forgottenIs(x, 0, 1, 96059601, 100000000);
        forgottenIs(x, 0, 5, 81, 256);
        forgottenIs(x, 0, 9, 130321, 100000000);
        forgottenIs(x, 0, 10, 0, 1);
        forgottenIs(x, 0, 0, 1, 1);
    }

    // ---- promise 26

    private static void wallsAre(WallReadings x, int z, int n, int k, int read, int readings) {
        Due.is("walls(" + z + ", " + n + ", " + k + ", 0)", x.walls(z, n, k, 0), read);
        Due.is("walls(" + z + ", " + n + ", " + k + ", 1)", x.walls(z, n, k, 1), readings);
    }

    private static void wallsRefuse() {
        int[] numbers = {-1, 10000, 10001, MIN, MAX};
        for (int z : numbers) {
            Scenes.refuse("walls(" + z + ", 1, 0, 0)", x -> x.walls(z, 1, 0, 0), Due.BAD);
        }
        int[] many = {0, -1, 41, 42, MIN, MAX};
        for (int n : many) {
            Scenes.refuse("walls(0, " + n + ", 0, 0)", x -> x.walls(0, n, 0, 0), Due.BAD);
        }
        int[] readers = {-1, 5, 6, MIN, MAX};
        for (int k : readers) {
            Scenes.refuse("walls(0, 1, " + k + ", 0)", x -> x.walls(0, 1, k, 0), Due.BAD);
        }
        Scenes.refuse("walls(0, 1, as many, 0)", x -> x.walls(0, 1, x.count(1), 0), Due.BAD);
        int[] whats = {-1, 2, 3, MIN, MAX};
        for (int what : whats) {
            Scenes.refuse("walls(0, 1, 0, " + what + ")", x -> x.walls(0, 1, 0, what), Due.BAD);
        }
        Scenes.look("walls(0, 1, 0, 0)", x -> x.walls(0, 1, 0, 0));
        Scenes.look("walls(9999, 40, last, 1)", x -> x.walls(9999, 40, x.count(1) - 1, 1));
    }

    /** Wall by wall: who knows just its LETTERS as one ROOT, or as two, has one READING more of it than of those ahead. */
    private static void wallsAreThese(int z, String rows) {
        String[] row = rows.split(" ");
        for (int wall = 0; wall < 40; wall++) {
            String first = row[wall].substring(0, Math.min(3, row[wall].length()));
            String last = row[wall].substring(first.length());
            String roots = "r" + first + ",1,0;" + (last.isEmpty() || last.equals(first) ? "" : "r" + last + ",1,0;");
            WallReadings x = Due.laid(roots + "k0,1,1;k3,1,1;");
            int ahead = wall == 0 ? 0 : x.walls(z, wall, 0, 0);
            Due.is("wall " + wall + " of " + z + ": " + row[wall], x.walls(z, wall + 1, 0, 0), ahead + 1);
            int readings = wall == 0 ? 0 : x.walls(z, wall, 0, 1);
            Due.is("readings of wall " + wall + " of " + z, x.walls(z, wall + 1, 0, 1), readings + 1);
            int same = 0;
            for (int other = 0; other < 40; other++) {
                boolean whole = row[other].equals(row[wall]);
                same += whole ? 1 : 0;
            }
            if (row[wall].length() <= 3 && row[wall].length() > 1) {
                Due.is("walls like " + row[wall] + " of " + z, x.walls(z, 40, 0, 0), same);
            }
        }
    }

    private static void wallsOfTheLowestNumber() {
        wallsAreThese(0, WALLS_OF_0);
        WallReadings x = Due.laid("raa,1,0;k0,1,1;");
        wallsAre(x, 0, 1, 0, 1, 1);
        x = Due.laid("ra,1,1;k0,1,1;k2,1,1;k4,1,1;");
        wallsAre(x, 0, 1, 0, 1, 3);
        wallsAre(x, 0, 1, 1, 1, 2);
        wallsAre(x, 0, 1, 2, 1, 1);
    }

    private static void wallsOfTheHighestNumber() {
        wallsAreThese(9999, WALLS_OF_9999);
        WallReadings x = Due.laid("raad,1,0;rc,1,0;k0,1,1;k3,1,1;");
        wallsAre(x, 9999, 1, 0, 1, 1);
        wallsAre(x, 9999, 1, 1, 0, 0);
    }

    /** "n (1 to 40)": each LETTER a ROOT, each wall has a READING; and as many as its LETTERS, if all are VERBS, are for rows of one. */
    private static void wallsOneToForty() {
        WallReadings x = Due.laid("ra,1,0;rb,1,0;rc,1,0;rd,1,0;re,1,0;k0,1,1;k3,1,1;");
        int[] numbers = {0, 1, 2, 9998, 9999};
        for (int z : numbers) {
            for (int n = 1; n <= 40; n++) {
                wallsAre(x, z, n, n % 2, n, n);
            }
            x = Due.laid("ra,1,0;rb,1,0;rc,1,0;rd,1,0;re,1,0;k0,1,1;k3,1,1;");
        }
        x = Due.laid("ra,0,1;rb,0,1;rc,0,1;rd,0,1;re,0,1;k0,1,1;");
        for (int n = 1; n <= 40; n++) {
            int ones = 0;
            for (int wall = 0; wall < n; wall++) {
                ones += WALLS_OF_0.split(" ")[wall].length() == 1 ? 1 : 0;
            }
            wallsAre(x, 0, n, 0, ones, ones);
        }
    }

    /** "of how many he has a READING; how many READINGS of all together". */
    private static void wallsAreReadByTheReader() {
        // aa beec: a A, A a, a a of the first; none of the second.
        WallReadings x = Due.laid("ra,1,1;" + KINDS);
        wallsAre(x, 0, 2, 0, 1, 3);
        wallsAre(x, 0, 2, 1, 1, 1);
        wallsAre(x, 0, 2, 2, 1, 2);
        wallsAre(x, 0, 2, 3, 1, 3);
        wallsAre(x, 0, 2, 4, 1, 1);
        x = Due.laid("rceb,1,0;rbe,1,0;rec,0,1;re,1,1;" + KINDS);
        // beec by be EC alone; ceeb by none.
        wallsAre(x, 0, 2, 0, 1, 1);
        wallsAre(x, 0, 2, 1, 0, 0);
        wallsAre(x, 0, 2, 2, 1, 1);
        wallsAre(x, 0, 2, 3, 0, 0);
        wallsAre(x, 0, 2, 4, 1, 1);
        x = Due.laid("rcee,1,0;rb,2,2;" + KINDS);
        wallsAre(x, 0, 2, 3, 1, 2);
        wallsAre(x, 0, 2, 0, 0, 0);
    }

    private static void wallsAreWhateverIsWritten() {
        WallReadings x = Due.laid("ra,1,1;k0,1,1;g0;");
        wallsAre(x, 0, 1, 0, 1, 3);
        x.carve(4);
        wallsAre(x, 0, 1, 0, 1, 3);
        Due.is("readings of what is written", x.reader(0, 3), 0);
        x.rub();
        x.carve(0);
        wallsAre(x, 0, 1, 0, 1, 3);
        Due.is("readings of what is written", x.reader(0, 3), 2);
        x.pass(24);
        wallsAre(x, 0, 1, 0, 1, 3);
    }

    // ---- promises 27 and 28

    /** "2 at most"; "FULL". */
    private static void keptAre2AtMost() {
        WallReadings x = new WallReadings();
        Due.is("keep", x.keep(), 1);
        Due.is("count(11)", x.count(11), 1);
        Due.is("keep", x.keep(), 2);
        Due.is("count(11)", x.count(11), 2);
        Due.is("keep of a third", x.keep(), Due.FULL);
        Due.is("count(11)", x.count(11), 2);
        Due.is("back", x.back(), 1);
        Due.is("keep behind back", x.keep(), 2);
        Due.is("keep of a third", x.keep(), Due.FULL);
        Due.is("back", x.back(), 1);
        Due.is("back", x.back(), 0);
        Due.is("keep", x.keep(), 1);
        Scenes.refuseIn(Scenes.Scene.FULL, "keep, full", WallReadings::keep, Due.FULL);
        for (Scenes.Scene scene : Scenes.Scene.values()) {
            x = scene.make();
            for (int n = x.count(11) + 1; n <= 2; n++) {
                Due.is("keep, the " + n + "th in " + scene, x.keep(), n);
            }
            Due.is("keep of a third in " + scene, x.keep(), Due.FULL);
            Scenes.refuseBehind(scene, y -> {
                y.keep();
                y.pass(1);
                y.keep();
                y.pass(2);
            }, "keep, full", WallReadings::keep, Due.FULL);
        }
    }

    private static void keepIsNothingToUndo() {
        WallReadings x = new WallReadings();
        x.pass(1);
        x.keep();
        Due.is("count(10)", x.count(10), 1);
        int[] before = Due.counts(x);
        x.keep();
        before[11] = 2;
        Due.are("counts behind keep", Due.counts(x), before);
        Due.is("undo", x.undo(), 0);
        Due.is("hour", x.count(3), 0);
        Due.is("count(11)", x.count(11), 2);
    }

    /** "all as it stands": hour, GOLD, VERBS known, the gate, the WRITING. */
    private static void keptIsAllAsItStands() {
        Scenes.Deed[] deeds = {
            x -> x.pass(24), x -> x.ask(0), x -> x.ask(1), WallReadings::shut, x -> x.carve(1), WallReadings::rub, x -> { }};
        for (int n = 0; n < deeds.length; n++) {
            WallReadings x = Due.laid("ra,0,1;rb,1,2;rc,1,3;k0,2,3;k2,3,4;wacb;g20;");
            x.ask(0);
            x.carve(2);
            int[] before = Due.counts(x);
            int readings = x.reader(0, 3);
            Due.is("keep, " + n, x.keep(), 1);
            deeds[n].on(x);
            x.carve(0);
            deeds[n].on(x);
            Due.is("back, " + n, x.back(), 0);
            before[10] = 0;
            Due.are("counts behind back, " + n, Due.counts(x), before);
            Due.is("readings behind back, " + n, x.reader(0, 3), readings);
            Due.is("rub behind back, " + n, x.rub(), 3);
            Due.is("readings behind rub, " + n, x.reader(0, 3), 2);
        }
        WallReadings x = Due.laid("ra,0,1;k0,1,0;wa;");
        x.ask(0);
        x.shut();
        x.keep();
        x.undo();
        Due.is("open", x.count(7), 0);
        x.pass(24);
        Due.is("fallen", x.count(7), 2);
        x.back();
        Due.is("shut again", x.count(7), 1);
        Due.is("hour", x.count(3), 1);
    }

    private static void backIsNoOfNoneKept() {
        Scenes.refuseIn(Scenes.Scene.FRESH, "back, none kept", WallReadings::back, Due.NO);
        Scenes.refuseIn(Scenes.Scene.TOLD, "back, none kept", WallReadings::back, Due.NO);
        Scenes.refuseIn(Scenes.Scene.SHUT, "back, none kept", WallReadings::back, Due.NO);
        Scenes.refuseIn(Scenes.Scene.FALLEN, "back, none kept", WallReadings::back, Due.NO);
        Scenes.refuseIn(Scenes.Scene.POOR, "back, none kept", WallReadings::back, Due.NO);
        for (Scenes.Scene scene : Scenes.Scene.values()) {
            Scenes.refuseBehind(scene, x -> {
                x.back();
                x.back();
                x.pass(3);
                x.carve(0);
            }, "back, no more kept", WallReadings::back, Due.NO);
        }
    }

    /** "As KEPT last (it is KEPT no more then): how many are left". */
    private static void backIsToTheLastKept() {
        WallReadings x = new WallReadings();
        x.pass(1);
        x.keep();
        x.pass(2);
        x.keep();
        x.pass(4);
        Due.is("back", x.back(), 1);
        Due.is("hour of the last", x.count(3), 3);
        Due.is("count(11)", x.count(11), 1);
        x.pass(8);
        Due.is("back", x.back(), 0);
        Due.is("hour of the first", x.count(3), 1);
        Due.is("count(11)", x.count(11), 0);
        Due.is("back", x.back(), Due.NO);
        Due.is("hour stays", x.count(3), 1);
        x.keep();
        x.pass(1);
        Due.is("back to what was kept anew", x.back(), 0);
        Due.is("hour", x.count(3), 1);
        x = new WallReadings();
        x.pass(1);
        x.keep();
        x.keep();
        x.pass(2);
        Due.is("back to one of two alike", x.back(), 1);
        x.pass(3);
        Due.is("back to the other one", x.back(), 0);
        Due.is("hour", x.count(3), 1);
    }

    /** "but what is SEEN and THE TEXT (these stay by back()". */
    private static void backLeavesWhatIsSeenAndTheText() {
        WallReadings x = new WallReadings();
        x.see(0, 12);
        x.write('g');
        x.keep();
        x.see(1, 12);
        x.write('5');
        x.write(';');
        Due.is("back", x.back(), 0);
        Due.is("seen stays", x.count(9), 2);
        Due.is("the text stays", x.count(12), 3);
        Due.is("what the text tells", x.fault(), Due.NONE);
        x.keep();
        x.forget();
        x.wipe();
        Due.is("back", x.back(), 0);
        Due.is("what is forgotten stays so", x.count(9), 0);
        Due.is("what is wiped stays so", x.count(12), 0);
        Due.is("wrote", x.wrote(0), 780);
    }

    /** "behind which nothing can be UNDONE". */
    private static void behindBackNothingCanBeUndone() {
        WallReadings x = new WallReadings();
        x.pass(1);
        x.pass(1);
        x.keep();
        x.pass(1);
        Due.is("back", x.back(), 0);
        Due.is("count(10)", x.count(10), 0);
        Due.is("undo", x.undo(), Due.NO);
        Due.is("hour", x.count(3), 2);
        for (int n = 1; n <= 9; n++) {
            x.pass(1);
            Due.is("count(10), " + n, x.count(10), Math.min(8, n));
        }
        for (int n = 7; n >= 0; n--) {
            Due.is("undo", x.undo(), n);
        }
        Due.is("undo", x.undo(), Due.NO);
        Due.is("hour", x.count(3), 3);
    }

    private static void undoGoesPastKeep() {
        WallReadings x = new WallReadings();
        x.pass(1);
        x.pass(2);
        x.keep();
        Due.is("undo", x.undo(), 1);
        Due.is("undo", x.undo(), 0);
        Due.is("hour", x.count(3), 0);
        Due.is("still kept", x.count(11), 1);
        Due.is("back", x.back(), 0);
        Due.is("hour", x.count(3), 3);
    }

    private static void layKeepsNoneKept() {
        WallReadings x = new WallReadings();
        Scenes.put(x, "ra,1,1;k0,1,1;z");
        x.keep();
        x.keep();
        Due.is("lay of a fault", x.lay(), Due.NO);
        Due.is("count(11)", x.count(11), 2);
        x.wipe();
        Scenes.put(x, "ra,1,1;k0,1,1;");
        Due.is("lay", x.lay(), 1);
        Due.is("count(11)", x.count(11), 0);
        Due.is("back", x.back(), Due.NO);
        Due.is("keep", x.keep(), 1);
        Due.is("keep", x.keep(), 2);
    }

    // ---- promise 29

    private static void countRefuses() {
        int[] whats = {-1, 13, 14, MIN, MAX};
        for (int what : whats) {
            Scenes.refuse("count(" + what + ")", x -> x.count(what), Due.BAD);
        }
        for (int what = 0; what <= 12; what++) {
            int w = what;
            Scenes.look("count(" + w + ")", x -> x.count(w));
        }
    }

    private static void countsOfEach() {
        int[][] due = {
            {8, 5, 7, 0, 25, 18, 10, 0, 0, 0, 0, 0, 0},
            {3, 2, 3, 0, 7, 9, 6, 0, 0, 0, 0, 0, 50},
            {8, 5, 7, 3, 25, 18, 10, 0, 10, 1, 6, 1, 4},
            {8, 5, 7, 26, 22, 0, 10, 1, 10, 0, 4, 0, 0},
            {8, 5, 7, 10, 13, 0, 10, 2, 6, 1, 2, 0, 0},
            {8, 5, 9, 12, 25, 0, 10, 2, 0, 6, 8, 2, 200},
            {1, 2, 0, 0, 0, 20, 12, 0, 0, 0, 0, 0, 0},
            {8, 5, 8, 2, 25, 18, 10, 0, 10, 1, 0, 1, 0}};
        for (Scenes.Scene scene : Scenes.Scene.values()) {
            Due.are("counts in " + scene, Due.counts(scene.make()), due[scene.ordinal()]);
        }
    }

    /** "7 1 if the gate is shut, 2 if the town has FALLEN, 0". */
    private static void townIsFallenOrShutOrNeither() {
        WallReadings x = Due.laid("ra,0,1;k0,1,0;wa;v5,2,1;");
        int fall = x.count(6);
        Due.is("FALL", fall, 5);
        for (int hour = 0; hour < 8; hour++) {
            Due.is("open, in hour " + hour, x.count(7), hour < fall ? 0 : 2);
            x.pass(1);
        }
        for (int shut = 1; shut < fall; shut++) {
            x = Due.laid("ra,0,1;k0,1,0;wa;v5,2,1;");
            x.ask(0);
            while (x.count(3) < shut) {
                x.pass(1);
            }
            Due.is("shut in hour " + shut, x.shut(), fall - shut);
            for (int hour = shut; hour < 9; hour++) {
                Due.is("shut in hour " + shut + ", in hour " + hour, x.count(7), 1);
                x.pass(1);
            }
        }
    }

    /** "Of several the first in this order, whatever the order at a call": BAD, NO, NONE, FULL. */
    private static void badIsTheFirst() {
        Scenes.Scene poor = Scenes.Scene.POOR;
        Scenes.refuseIn(poor, "ask(2), BAD ahead of NO", x -> x.ask(2), Due.BAD);
        Scenes.refuseIn(poor, "tells(2, 0), BAD ahead of NONE", x -> x.tells(2, 0), Due.BAD);
        Scenes.refuseIn(poor, "tells(0, 3), BAD ahead of NONE", x -> x.tells(0, 3), Due.BAD);
        Scenes.refuseIn(poor, "tells(0, 0), NONE", x -> x.tells(0, 0), Due.NONE);
        Scenes.refuseIn(poor, "without(2), BAD ahead of NONE", x -> x.without(2), Due.BAD);
        Scenes.refuseIn(poor, "without(0), NONE", x -> x.without(0), Due.NONE);
        Scenes.refuseIn(poor, "shortest(0, 2), BAD ahead of NONE", x -> x.shortest(0, 2), Due.BAD);
        Scenes.refuseIn(poor, "shortest(0, 0), NONE", x -> x.shortest(0, 0), Due.NONE);
        Scenes.refuseIn(poor, "until(2), BAD ahead of NONE", x -> x.until(2), Due.BAD);
        Scenes.refuseIn(poor, "until(0), NONE", x -> x.until(0), Due.NONE);
        Scenes.refuseIn(poor, "enough(1, 0), BAD ahead of NONE", x -> x.enough(1, 0), Due.BAD);
        Scenes.refuseIn(poor, "enough(2, 3), BAD ahead of NONE", x -> x.enough(2, 3), Due.BAD);
        Scenes.refuseIn(poor, "enough(2, 0), NONE", x -> x.enough(2, 0), Due.NONE);
        Scenes.refuseIn(poor, "word(0, 0, 9), BAD ahead of NONE", x -> x.word(0, 0, 9), Due.BAD);
        Scenes.Scene full = Scenes.Scene.FULL;
        Scenes.refuseIn(full, "write(31), BAD ahead of FULL", x -> x.write(31), Due.BAD);
        Scenes.refuseIn(full, "write(32), FULL", x -> x.write(32), Due.FULL);
        Scenes.refuseIn(full, "carve(5), BAD ahead of FULL", x -> x.carve(5), Due.BAD);
        Scenes.refuseIn(full, "carve(4), FULL", x -> x.carve(4), Due.FULL);
        Scenes.refuseIn(full, "see(0, 601), BAD ahead of FULL", x -> x.see(0, 601), Due.BAD);
        Scenes.refuseIn(full, "see(0, 600), FULL", x -> x.see(0, 600), Due.FULL);
        Scenes.refuseIn(full, "wrote(2), BAD ahead of NONE", x -> x.wrote(2), Due.BAD);
    }
}
