/** The edges that promises 11 to 16 name, and what Terms say of hours, GOLD, the RIVER, the gate and what is UNDONE. */
public final class HoursEdgesTest {
    private static final int MIN = Integer.MIN_VALUE, MAX = Integer.MAX_VALUE;
    /** One VERB for each LETTER a, b, c; a SCRIBE for nothing in an hour. */
    private static final String VERBS = "ra,0,1;rb,0,2;rc,0,3;rd,1,0;k0,1,0;";

    public static void main(String[] args) {
        askIsForReadersSuchAsThereAre();
        askNeedsTheGold();
        askRefusedLeavesAllAsItWas();
        askPaysAndTakesHisHours();
        askMakesKnownWhatIsToldAlone();
        askOfNoReading();
        askIsOfTheWritingAsItStands();
        verbsStayKnown();
        askBehindFall();
        fallIsTheFirstHourOf2Deep();
        riverIsDeepUpToT();
        riverIsZeroAtLeast();
        shutNeedsEnd();
        shutIsNoTwice();
        shutAheadOfFallAlone();
        shutTellsTheHoursAhead();
        shutTownDoesNotFall();
        carveIsOfFiveLetters();
        carveIsFullWith9();
        carveIsBehindTheWriting();
        rubIsNoOfNone();
        rubIsOfTheLast();
        passIsOf1To24();
        passTellsTheDepth();
        undoIsNoOfNothing();
        undoIsOfTheLast8();
        undoOfEachOfThese();
        whatIsRefusedIsNotUndone();
        whatOnlyLooksIsNotUndone();
        undoneIsNotDoneAgain();
        hoursThatGoByAtOneTimeAreOne();
        undoLeavesWhatIsNoneOfThese();
        undoBringsTheTownBack();
        Due.end("HoursEdgesTest");
    }

    // ---- promise 11

    private static void askIsForReadersSuchAsThereAre() {
        int[] readers = {-1, 5, 6, MIN, MAX};
        for (int k : readers) {
            Scenes.refuse("ask(" + k + ")", x -> x.ask(k), Due.BAD);
        }
        Scenes.refuse("ask(as many)", x -> x.ask(x.count(1)), Due.BAD);
        WallReadings x = new WallReadings();
        Due.is("ask(4), the last", x.ask(4), 4);
        Due.is("ask(0), the first", x.ask(0), 4);
    }

    /** "if there is the GOLD": just as much is enough, one less is not, and nothing is enough for nothing. */
    private static void askNeedsTheGold() {
        int[] prices = {0, 1, 2, 59, 60};
        for (int price : prices) {
            for (int gold = Math.max(0, price - 1); gold <= price + 1; gold++) {
                WallReadings x = Due.laid("ra,0,1;k0,1," + price + ";wa;g" + gold + ";");
                Due.is("ask for " + price + " of " + gold, x.ask(0), gold < price ? Due.NO : 2);
                Due.is("gold behind ask for " + price + " of " + gold, x.count(4), gold < price ? gold : gold - price);
                Due.is("hours behind ask for " + price + " of " + gold, x.count(3), gold < price ? 0 : 1);
            }
        }
        WallReadings x = Due.laid("ra,0,1;k0,1,33;wa;g99;");
        Due.is("ask for 33 of 99", x.ask(0), 2);
        Due.is("ask for 33 of 66", x.ask(0), 2);
        Due.is("ask for 33 of 33", x.ask(0), 2);
        Due.is("ask for 33 of 0", x.ask(0), Due.NO);
        Due.is("undo", x.undo(), 2);
        Due.is("ask for 33 of 33 again", x.ask(0), 2);
        Due.is("all paid", x.count(4), 0);
    }

    private static void askRefusedLeavesAllAsItWas() {
        Scenes.refuseIn(Scenes.Scene.POOR, "ask(0), poor", x -> x.ask(0), Due.NO);
        Scenes.refuseIn(Scenes.Scene.POOR, "ask(1), poor", x -> x.ask(1), Due.NO);
        Scenes.refuseIn(Scenes.Scene.POOR, "ask(2), poor", x -> x.ask(2), Due.BAD);
        Scenes.refuseIn(Scenes.Scene.POOR, "ask(-1), poor", x -> x.ask(-1), Due.BAD);
        for (Scenes.Scene scene : new Scenes.Scene[] {Scenes.Scene.FRESH, Scenes.Scene.BUSY, Scenes.Scene.FULL}) {
            Scenes.refuseBehind(scene, x -> {
                x.ask(2);
                x.ask(2);
            }, "ask(2), all paid", x -> x.ask(2), Due.NO);
        }
    }

    /** "it is paid, his hours go by". */
    private static void askPaysAndTakesHisHours() {
        for (int hours = 1; hours <= 12; hours++) {
            WallReadings x = Due.laid("ra,0,1;k0," + hours + ",7;wa;g20;");
            Due.is("ask for " + hours + " hours", x.ask(0), 2);
            Due.are("counts behind it", Due.counts(x), 1, 1, 1, hours, 13, 20 - 3 * Math.max(0, hours - 6), 12, hours == 12 ? 2 : 0, 2, 0, 1, 0, 0);
            Due.is("ask again", x.ask(0), 2);
            Due.is("hours behind both", x.count(3), 2 * hours);
            Due.is("gold behind both", x.count(4), 6);
        }
    }

    /** "all VERBS in what he TELLS": not those of his other READINGS. */
    private static void askMakesKnownWhatIsToldAlone() {
        WallReadings x = Due.laid("ra,1,1;k0,1,1;k1,1,1;k2,1,1;k3,1,1;k4,1,1;wa;");
        int[] due = {0, 0, 2, 2, 2};
        for (int k = 0; k < 5; k++) {
            Due.is("ask(" + k + ") of a", x.ask(k), due[k]);
            Due.is("known behind ask(" + k + ")", x.count(8), due[k]);
            x.undo();
        }
        x = Due.laid("ra,0,1;rb,0,2;rc,0,3;rd,1,0;k0,1,1;wadbdc;");
        Due.is("three verbs at once", x.ask(0), 14);
        x = Due.laid("ra,0,3;rd,1,0;k0,1,1;wadada;");
        Due.is("one verb three times", x.ask(0), 8);
    }

    private static void askOfNoReading() {
        WallReadings x = Due.laid("ra,0,1;rb,5,0;k0,2,3;k1,3,4;wae;g9;");
        Due.is("ask(0) of none", x.ask(0), 0);
        Due.are("counts behind it", Due.counts(x), 2, 2, 2, 2, 6, 20, 12, 0, 0, 0, 1, 0, 0);
        x.rub();
        Due.is("ask(1) of no nouns", x.ask(1), 0);
        Due.is("ask(0) for 3 of 2", x.ask(0), Due.NO);
        x = Due.laid("ra,0,1;k0,2,3;g9;");
        Due.is("ask(0) of nothing", x.ask(0), 0);
        Due.are("counts behind it", Due.counts(x), 1, 1, 0, 2, 6, 20, 12, 0, 0, 0, 1, 0, 0);
    }

    private static void askIsOfTheWritingAsItStands() {
        WallReadings x = Due.laid(VERBS);
        int[] due = {2, 6, 14};
        for (int letter = 0; letter < 3; letter++) {
            x.carve(letter);
            Due.is("ask of letter " + letter, x.ask(0), due[letter]);
            x.rub();
        }
        Due.is("ask of nothing", x.ask(0), 14);
    }

    /** What is known stays known, whatever is told later; but for what is UNDONE. */
    private static void verbsStayKnown() {
        WallReadings x = Due.laid(VERBS + "wc;");
        Due.is("ask of c", x.ask(0), 8);
        x.rub();
        x.carve(3);
        Due.is("ask of d", x.ask(0), 8);
        Due.is("known", x.count(8), 8);
        x.carve(0);
        Due.is("ask of da", x.ask(0), 10);
        Due.is("undo", x.undo(), 5);
        Due.is("known behind undo", x.count(8), 8);
        Due.is("ask of da", x.ask(0), 10);
    }

    /** A READER can be ASKED when the town has FALLEN too: only the GOLD is asked for. */
    private static void askBehindFall() {
        WallReadings x = Due.laid("ra,0,1;k0,1,1;wa;v3,0,1;g2;");
        Due.is("FALL", x.count(6), 1);
        x.pass(1);
        Due.is("has fallen", x.count(7), 2);
        Due.is("ask, fallen", x.ask(0), 2);
        Due.is("ask again", x.ask(0), 2);
        Due.is("ask for gold that is not there", x.ask(0), Due.NO);
        Due.is("hours", x.count(3), 3);
    }

    // ---- the RIVER

    private static int depth(int deep, int turned, int falls, int hour) {
        int depth = deep;
        for (int h = turned + 1; h <= hour; h++) {
            depth = depth > falls ? depth - falls : 0;
        }
        return depth;
    }

    /** "FALL is the first hour in which it is 2 deep or less". */
    private static void fallIsTheFirstHourOf2Deep() {
        int[] depths = {3, 4, 5, 21, 22, 23, 24, 42, 43, 59, 60};
        int[] hours = {0, 1, 6, 23, 24};
        for (int deep : depths) {
            for (int turned : hours) {
                for (int falls = 1; falls <= 20; falls++) {
                    String river = "v" + deep + "," + turned + "," + falls + ";";
                    int fall = 0;
                    while (depth(deep, turned, falls, fall) > 2) {
                        fall++;
                    }
                    WallReadings x = Due.laid("ra,1,1;k0,1,1;" + river);
                    Due.is("FALL of " + river, x.count(6), fall);
                    while (x.count(3) < fall - 1) {
                        x.pass(Math.min(24, fall - 1 - x.count(3)));
                    }
                    Due.is("ahead of FALL of " + river, x.count(7), 0);
                    Due.is("more than 2 deep by " + river, x.count(5) > 2, true);
                    Due.is("depth in FALL of " + river, x.pass(1), depth(deep, turned, falls, fall));
                    Due.is("in FALL of " + river, x.count(7), 2);
                }
            }
        }
    }

    /** "The RIVER is D deep up to hour T, then F less for each hour since". */
    private static void riverIsDeepUpToT() {
        WallReadings x = Due.laid("ra,1,1;k0,1,1;v60,24,7;");
        Due.is("in hour 0", x.count(5), 60);
        Due.is("in hour 23", x.pass(23), 60);
        Due.is("in hour 24", x.pass(1), 60);
        Due.is("in hour 25", x.pass(1), 53);
        Due.is("in hour 26", x.pass(1), 46);
        x = Due.laid("ra,1,1;k0,1,1;v60,0,1;");
        Due.is("in hour 0, turned then", x.count(5), 60);
        Due.is("in hour 1", x.pass(1), 59);
        Due.is("in hour 25", x.pass(24), 35);
        x = Due.laid("ra,1,1;k0,3,1;v60,2,5;");
        x.ask(0);
        Due.is("in hour 3, by asking", x.count(5), 55);
    }

    /** "(0 at least)". */
    private static void riverIsZeroAtLeast() {
        int[] deeps = {20, 21, 22, 23, 24, 39, 40, 41};
        for (int deep : deeps) {
            WallReadings x = Due.laid("ra,1,1;k0,1,1;v" + deep + ",0,20;");
            Due.is(deep + " deep, in hour 1", x.pass(1), deep - 20);
            Due.is(deep + " deep, fallen in hour 1", x.count(7), deep <= 22 ? 2 : 0);
            Due.is(deep + " deep, in hour 2", x.pass(1), Math.max(0, deep - 40));
            Due.is(deep + " deep, in hour 3", x.pass(1), 0);
            Due.is(deep + " deep, in hour 27", x.pass(24), 0);
            Due.is(deep + " deep, count(5)", x.count(5), 0);
        }
    }

    // ---- promise 12

    private static void shutIsNo(String when, WallReadings x) {
        int[] before = Due.counts(x);
        Due.is("shut, " + when, x.shut(), Due.NO);
        Due.are("counts behind it, " + when, Due.counts(x), before);
    }

    /** "END is not known". */
    private static void shutNeedsEnd() {
        Scenes.refuseIn(Scenes.Scene.FRESH, "shut, nothing known", WallReadings::shut, Due.NO);
        Scenes.refuseIn(Scenes.Scene.TOLD, "shut, nothing known", WallReadings::shut, Due.NO);
        Scenes.refuseIn(Scenes.Scene.FULL, "shut, nothing known", WallReadings::shut, Due.NO);
        WallReadings x = Due.laid(VERBS + "wb;");
        shutIsNo("nothing known", x);
        x.ask(0);
        shutIsNo("WEIGH known", x);
        x.carve(3);
        x.carve(2);
        Due.is("ask of bdc", x.ask(0), 12);
        shutIsNo("WEIGH and DIVIDE known", x);
        x.carve(3);
        x.carve(0);
        Due.is("ask of bdcda", x.ask(0), 14);
        Due.is("shut, all known", x.shut(), 9);
        x = Due.laid(VERBS + "wa;");
        shutIsNo("END told but not asked for", x);
        x.ask(0);
        x.undo();
        shutIsNo("END undone", x);
        x.ask(0);
        Due.is("shut, END alone known", x.shut(), 11);
    }

    private static void shutIsNoTwice() {
        Scenes.refuseIn(Scenes.Scene.SHUT, "shut, shut", WallReadings::shut, Due.NO);
        WallReadings x = Due.laid(VERBS + "wa;");
        x.ask(0);
        Due.is("shut", x.shut(), 11);
        shutIsNo("shut", x);
        x.pass(24);
        shutIsNo("shut, behind FALL", x);
        x.undo();
        Due.is("undo of shut", x.undo(), 1);
        Due.is("open", x.count(7), 0);
        Due.is("shut once more", x.shut(), 11);
    }

    /** "FALLEN": an hour ahead of FALL it can be shut, in FALL and behind it not. */
    private static void shutAheadOfFallAlone() {
        Scenes.refuseIn(Scenes.Scene.FALLEN, "shut, fallen", WallReadings::shut, Due.NO);
        Scenes.refuseBehind(Scenes.Scene.BUSY, x -> x.pass(24), "shut, fallen", WallReadings::shut, Due.NO);
        for (int hours = 1; hours <= 12; hours++) {
            WallReadings x = Due.laid("ra,0,1;k0," + hours + ",0;wa;v5,4,1;");
            Due.is("FALL", x.count(6), 7);
            Due.is("ask for " + hours + " hours", x.ask(0), 2);
            if (hours < 7) {
                Due.is("shut in hour " + hours, x.shut(), 7 - hours);
                Due.is("is shut", x.count(7), 1);
            } else {
                shutIsNo("in hour " + hours, x);
                Due.is("has fallen", x.count(7), 2);
            }
        }
        WallReadings x = Due.laid("ra,0,1;k0,1,0;wa;v3,0,1;");
        x.ask(0);
        shutIsNo("FALL in hour 1", x);
    }

    private static void shutTellsTheHoursAhead() {
        WallReadings x = Due.laid("ra,0,1;k0,1,0;wa;v60,24,1;");
        x.ask(0);
        Due.is("the most", x.shut(), 81);
        x.undo();
        x.pass(24);
        x.pass(24);
        x.pass(24);
        x.pass(8);
        Due.is("hour", x.count(3), 81);
        Due.is("the fewest", x.shut(), 1);
        x.undo();
        x.pass(1);
        shutIsNo("in FALL", x);
        x.undo();
        Due.is("the fewest again", x.shut(), 1);
    }

    /** "the town has FALLEN from that hour on, if the gate is open then". */
    private static void shutTownDoesNotFall() {
        WallReadings x = Due.laid("ra,0,1;k0,1,0;wa;v5,0,1;");
        x.ask(0);
        x.pass(1);
        Due.is("shut in hour 2", x.shut(), 1);
        Due.is("FALL stays", x.count(6), 3);
        for (int hour = 3; hour < 8; hour++) {
            x.pass(1);
            Due.is("is shut in hour " + hour, x.count(7), 1);
        }
        for (int n = 0; n < 5; n++) {
            x.undo();
        }
        Due.is("still shut", x.count(7), 1);
        x.undo();
        Due.is("open", x.count(7), 0);
        x.pass(1);
        Due.is("fallen", x.count(7), 2);
    }

    // ---- promises 13 and 14

    private static void carveIsOfFiveLetters() {
        int[] none = {-1, 5, 6, 'a', MIN, MAX};
        for (int letter : none) {
            Scenes.refuse("carve(" + letter + ")", x -> x.carve(letter), Due.BAD);
        }
        for (int letter = 0; letter < 5; letter++) {
            WallReadings x = Due.laid("ra,1,0;rb,1,0;rc,1,0;rd,1,0;re,1,0;k0,1,1;");
            Due.is("carve(" + letter + ")", x.carve(letter), 1);
            Due.is("what is written by carve(" + letter + ")", x.word(0, 0, 0), 2 * letter);
        }
    }

    private static void carveIsFullWith9() {
        WallReadings x = Due.laid("ra,1,0;re,1,0;k0,1,1;weeeeeee;");
        Due.is("the 8th", x.carve(4), 8);
        Due.is("the 9th", x.carve(0), 9);
        Due.is("the 10th", x.carve(4), Due.FULL);
        Due.is("none, full", x.carve(5), Due.BAD);
        Due.is("the 9th stays", x.word(0, 0, 8), 0);
        Due.is("rub", x.rub(), 8);
        Due.is("the 9th again", x.carve(4), 9);
        Due.is("the 9th is another one", x.word(0, 0, 8), 2);
        x.undo();
        Due.is("the 9th behind undo", x.carve(4), 9);
        Due.is("the 10th behind undo", x.carve(4), Due.FULL);
        for (int letter = 0; letter < 5; letter++) {
            int a = letter;
            Scenes.refuseIn(Scenes.Scene.FULL, "carve(" + a + "), full", y -> y.carve(a), Due.FULL);
        }
        Scenes.refuseIn(Scenes.Scene.FULL, "carve(-1), full", y -> y.carve(-1), Due.BAD);
        Scenes.refuseIn(Scenes.Scene.FULL, "carve(5), full", y -> y.carve(5), Due.BAD);
        x = Due.laid("ra,1,0;k0,1,1;waaaaaaaaa;");
        Due.is("the 10th of 9 told", x.carve(0), Due.FULL);
        for (Scenes.Scene scene : Scenes.Scene.values()) {
            x = scene.make();
            for (int n = x.count(2) + 1; n <= 9; n++) {
                Due.is("carve, the " + n + "th in " + scene, x.carve(n % 5), n);
            }
            Due.is("carve, the 10th in " + scene, x.carve(0), Due.FULL);
            Due.is("carve of none, the 10th in " + scene, x.carve(5), Due.BAD);
            Due.is("count(2), full in " + scene, x.count(2), 9);
        }
    }

    private static void carveIsBehindTheWriting() {
        WallReadings x = Due.laid("ra,1,0;rb,1,0;rc,1,0;k0,1,1;wba;");
        Due.is("carve(2)", x.carve(2), 3);
        Due.is("carve(1)", x.carve(1), 4);
        int[] due = {2, 0, 4, 2, Due.NONE};
        for (int j = 0; j < 5; j++) {
            Due.is("letter " + j, x.word(0, 0, j), due[j]);
        }
        Due.is("by one", x.count(10), 2);
    }

    private static void rubIsNoOfNone() {
        Scenes.refuseIn(Scenes.Scene.POOR, "rub of none", WallReadings::rub, Due.NO);
        Scenes.refuseBehind(Scenes.Scene.TOLD, x -> {
            x.rub();
            x.rub();
            x.rub();
        }, "rub of none", WallReadings::rub, Due.NO);
        WallReadings x = Due.laid("ra,1,0;k0,1,1;wa;");
        Due.is("rub of one", x.rub(), 0);
        Due.is("rub of none", x.rub(), Due.NO);
        Due.is("letters", x.count(2), 0);
        Due.is("carve behind it", x.carve(0), 1);
        Due.is("rub of one again", x.rub(), 0);
        x.undo();
        Due.is("rub behind undo", x.rub(), 0);
    }

    private static void rubIsOfTheLast() {
        WallReadings x = Due.laid("ra,1,0;rb,1,0;rc,1,0;rd,1,0;re,1,0;k0,1,1;wabcdeabcd;");
        for (int left = 8; left >= 1; left--) {
            Due.is("rub", x.rub(), left);
            Due.is("the last one left", x.word(0, 0, left - 1), 2 * ((left - 1) % 5));
            Due.is("none behind it", x.word(0, 0, left), Due.NONE);
            Due.is("the first one", x.word(0, 0, 0), 0);
        }
        Due.is("rub of the last", x.rub(), 0);
        for (Scenes.Scene scene : Scenes.Scene.values()) {
            x = scene.make();
            for (int left = x.count(2) - 1; left >= 0; left--) {
                Due.is("rub in " + scene, x.rub(), left);
            }
            Due.is("rub of none in " + scene, x.rub(), Due.NO);
            Due.is("count(2), none in " + scene, x.count(2), 0);
        }
    }

    // ---- promise 15

    private static void passIsOf1To24() {
        int[] none = {0, -1, 25, 26, MIN, MAX};
        for (int n : none) {
            Scenes.refuse("pass(" + n + ")", x -> x.pass(n), Due.BAD);
        }
        for (Scenes.Scene scene : Scenes.Scene.values()) {
            for (int n = 1; n <= 24; n++) {
                WallReadings x = scene.make();
                int hour = x.count(3);
                Due.is("pass(" + n + ") in " + scene, x.pass(n), x.count(5));
                Due.is("hours behind pass(" + n + ") in " + scene, x.count(3), hour + n);
            }
        }
    }

    private static void passTellsTheDepth() {
        int[] rows = {18, 18, 18, 18, 15, 12, 9, 6, 3, 0, 0, 0};
        for (int n = 1; n <= rows.length; n++) {
            Due.is("pass(" + n + ") from hour 0", new WallReadings().pass(n), rows[n - 1]);
        }
        WallReadings x = new WallReadings();
        for (int n = 1; n <= rows.length; n++) {
            Due.is("pass(1) up to hour " + n, x.pass(1), rows[n - 1]);
        }
    }

    // ---- promise 16

    private static void undoIsNoOfNothing() {
        Scenes.refuseIn(Scenes.Scene.FRESH, "undo of nothing", WallReadings::undo, Due.NO);
        Scenes.refuseIn(Scenes.Scene.TOLD, "undo of nothing", WallReadings::undo, Due.NO);
        Scenes.refuseIn(Scenes.Scene.POOR, "undo of nothing", WallReadings::undo, Due.NO);
        Scenes.refuseIn(Scenes.Scene.BACK, "undo behind back", WallReadings::undo, Due.NO);
        for (Scenes.Scene scene : Scenes.Scene.values()) {
            WallReadings x = scene.make();
            for (int left = x.count(10) - 1; left >= 0; left--) {
                Due.is("undo in " + scene, x.undo(), left);
                Due.is("count(10) in " + scene, x.count(10), left);
            }
            Due.is("undo of nothing more in " + scene, x.undo(), Due.NO);
            Due.is("and again in " + scene, x.undo(), Due.NO);
        }
    }

    /** "the last 8 can be". */
    private static void undoIsOfTheLast8() {
        for (int done = 1; done <= 20; done++) {
            WallReadings x = new WallReadings();
            int hour = 0;
            for (int n = 1; n <= done; n++) {
                x.pass(n);
                Due.is("that can be undone, of " + n, x.count(10), Math.min(8, n));
                hour += n;
            }
            for (int n = done; n > 0 && n > done - 8; n--) {
                Due.is("undo of " + n + ", of " + done, x.undo(), Math.min(8, done) - 1 - (done - n));
                hour -= n;
                Due.is("hour behind undo of " + n + ", of " + done, x.count(3), hour);
            }
            Due.is("undo of a ninth, of " + done, x.undo(), Due.NO);
            Due.is("hour behind it, of " + done, x.count(3), hour);
        }
        // What was done behind undo takes the place of what was undone.
        WallReadings x = new WallReadings();
        for (int n = 1; n <= 8; n++) {
            x.pass(1);
        }
        x.undo();
        x.undo();
        x.undo();
        for (int n = 6; n <= 9; n++) {
            x.pass(2);
            Due.is("that can be undone", x.count(10), Math.min(8, n));
        }
        int[] hours = {11, 9, 7, 5, 4, 3, 2, 1};
        for (int n = 0; n < 8; n++) {
            Due.is("undo", x.undo(), 7 - n);
            Due.is("hour", x.count(3), hours[n]);
        }
        Due.is("undo, no more", x.undo(), Due.NO);
    }

    /** Each of those that can be UNDONE, by itself: ASKED, shut, written, rubbed off, hours. */
    private static void undoOfEachOfThese() {
        Scenes.Deed[] deeds = {x -> x.ask(0), WallReadings::shut, x -> x.carve(1), WallReadings::rub, x -> x.pass(1), x -> x.pass(24)};
        for (int n = 0; n < deeds.length; n++) {
            WallReadings x = Due.laid(VERBS + "wa;g9;");
            x.ask(0);
            int[] before = Due.counts(x);
            deeds[n].on(x);
            Due.is("one more can be undone, " + n, x.count(10), 2);
            Due.is("undo, " + n, x.undo(), 1);
            Due.are("counts behind undo, " + n, Due.counts(x), before);
            Due.is("the writing behind undo, " + n, x.word(0, 0, 0), 1);
            Due.is("undo of ask, " + n, x.undo(), 0);
            Due.is("known behind it, " + n, x.count(8), 0);
        }
    }

    private static void whatIsRefusedIsNotUndone() {
        Scenes.Call[] refused = {
            x -> x.ask(-1), x -> x.ask(5), WallReadings::shut, x -> x.carve(5), x -> x.carve(-1), x -> x.pass(0), x -> x.pass(25),
            WallReadings::back, WallReadings::lay, x -> x.see(5, 0), x -> x.write(31)};
        for (int n = 0; n < refused.length; n++) {
            WallReadings x = new WallReadings();
            x.pass(2);
            x.pass(3);
            Due.is("refused, " + n, refused[n].on(x) < 0, true);
            Due.is("can be undone, " + n, x.count(10), 2);
            Due.is("undo, " + n, x.undo(), 1);
            Due.is("hour, " + n, x.count(3), 2);
        }
    }

    private static void whatOnlyLooksIsNotUndone() {
        Scenes.Call[] others = {
            x -> x.write('a'), WallReadings::wipe, WallReadings::fault, x -> x.root(0, 0), x -> x.reader(0, 3), x -> x.reading(0, 0, 0),
            x -> x.word(0, 0, 0), x -> x.tells(0, 0), x -> x.belief(0, 1, 0), x -> x.without(0), x -> x.shortest(0, 1), x -> x.until(0),
            x -> x.enough(2, 0), x -> x.see(0, 1), WallReadings::forget, x -> x.wrote(0), x -> x.forgotten(0, 1, 0), x -> x.walls(0, 1, 0, 0),
            WallReadings::keep, x -> x.count(0)};
        for (int n = 0; n < others.length; n++) {
            WallReadings x = new WallReadings();
            x.pass(2);
            x.pass(3);
            others[n].on(x);
            Due.is("can be undone, " + n, x.count(10), 2);
            Due.is("undo, " + n, x.undo(), 1);
            Due.is("hour, " + n, x.count(3), 2);
        }
    }

    /** Undoing is none of those that can be UNDONE. */
    private static void undoneIsNotDoneAgain() {
        WallReadings x = new WallReadings();
        x.pass(2);
        Due.is("undo", x.undo(), 0);
        Due.is("undo of undo", x.undo(), Due.NO);
        Due.is("hour", x.count(3), 0);
        Due.is("count(10)", x.count(10), 0);
    }

    /** "all that go by at one time are one"; ASKED too, with all that it does. */
    private static void hoursThatGoByAtOneTimeAreOne() {
        WallReadings x = new WallReadings();
        x.pass(24);
        Due.is("undo of 24 hours", x.undo(), 0);
        Due.is("hour", x.count(3), 0);
        x.ask(4);
        x.ask(2);
        Due.are("counts behind asking", Due.counts(x), 8, 5, 7, 7, 5, 9, 10, 0, 6, 0, 2, 0, 0);
        Due.is("undo of asking", x.undo(), 1);
        Due.are("counts behind it", Due.counts(x), 8, 5, 7, 4, 17, 18, 10, 0, 4, 0, 1, 0, 0);
        Due.is("undo of asking", x.undo(), 0);
        Due.are("counts behind it", Due.counts(x), 8, 5, 7, 0, 25, 18, 10, 0, 0, 0, 0, 0, 0);
    }

    /** What is SEEN, KEPT and THE TEXT stay. */
    private static void undoLeavesWhatIsNoneOfThese() {
        WallReadings x = new WallReadings();
        x.see(0, 1);
        x.keep();
        x.pass(1);
        x.see(0, 2);
        x.keep();
        x.write('r');
        Due.is("undo", x.undo(), 0);
        Due.are("counts behind undo", Due.counts(x), 8, 5, 7, 0, 25, 18, 10, 0, 0, 2, 0, 2, 1);
        x.pass(2);
        x.forget();
        x.wipe();
        Due.is("undo", x.undo(), 0);
        Due.are("counts behind undo", Due.counts(x), 8, 5, 7, 0, 25, 18, 10, 0, 0, 0, 0, 2, 0);
        Due.is("back to the last kept", x.back(), 1);
        Due.is("hour there", x.count(3), 1);
    }

    private static void undoBringsTheTownBack() {
        WallReadings x = Due.laid("ra,0,1;k0,1,0;wa;v5,0,1;");
        x.ask(0);
        x.pass(2);
        Due.is("fallen", x.count(7), 2);
        Due.is("undo", x.undo(), 1);
        Due.is("not fallen", x.count(7), 0);
        Due.is("shut", x.shut(), 2);
        x.pass(24);
        Due.is("shut", x.count(7), 1);
        x.undo();
        x.undo();
        x.pass(2);
        Due.is("fallen again", x.count(7), 2);
    }
}
