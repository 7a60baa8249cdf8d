/** The edges that promises 17 to 21 name, and what Terms say of BELIEF, WITHOUT, SHORTEST, UNTIL and ENOUGH. */
public final class MayBeEdgesTest {
    private static final int MIN = Integer.MIN_VALUE, MAX = Integer.MAX_VALUE;
    private static final String KINDS = "k0,1,1;k1,1,1;k2,1,1;k3,1,1;k4,1,1;";
    /** Of cac the SCRIBE tells CA c (END), the CHILD C ac (WEIGH), the QUEEN c AC (DIVIDE). */
    private static final String THREE = "rca,0,1;rac,2,3;rc,3,2;wcac;";

    public static void main(String[] args) {
        beliefRefuses();
        beliefIsZeroIfThereIsNone();
        beliefIsOneIfInAll();
        beliefIsInLowestTerms();
        beliefIsByReadingsNotWords();
        withoutRefuses();
        withoutIsNoneForWhoHasNone();
        withoutOfNoRoot();
        withoutOfTheFirstAndTheLastRoot();
        withoutIsForTheReader();
        shortestRefuses();
        shortestIsOfOneToFourLetters();
        shortestIsTheFirstOfTheShortest();
        shortestIsNone();
        shortestIsWhateverIsWritten();
        untilRefuses();
        untilIsAheadOfFall();
        untilIsNowOrLater();
        untilIsHour0AtLeast();
        untilIsGoldAside();
        untilIsOfEndInWhatHeTells();
        untilIsWhateverIsKnownOrShut();
        enoughRefuses();
        enoughIsOfEachSetOfVerbs();
        enoughCanBePaid();
        enoughIsAheadOfFall();
        enoughIsOfLeastGold();
        enoughIsOfFewestHours();
        enoughIsTheLowestAsBits();
        enoughOfOneToThreeReaders();
        enoughOfWhatIsKnownAlready();
        enoughBeTheGateOpenOrShut();
        enoughIsByWhatIsTold();
        enoughIsFromNowOn();
        Due.end("MayBeEdgesTest");
    }

    // ---- promise 17

    private static void beliefIs(WallReadings x, int k, int v, int above, int below) {
        Due.is("belief(" + k + ", " + v + ", 0)", x.belief(k, v, 0), above);
        Due.is("belief(" + k + ", " + v + ", 1)", x.belief(k, v, 1), below);
    }

    private static void beliefRefuses() {
        int[] readers = {-1, 5, 6, MIN, MAX};
        for (int k : readers) {
            Scenes.refuse("belief(" + k + ", 1, 0)", x -> x.belief(k, 1, 0), Due.BAD);
        }
        Scenes.refuse("belief(as many, 1, 0)", x -> x.belief(x.count(1), 1, 0), Due.BAD);
        int[] verbs = {0, 4, -1, 5, MIN, MAX};
        for (int v : verbs) {
            Scenes.refuse("belief(0, " + v + ", 0)", x -> x.belief(0, v, 0), Due.BAD);
        }
        int[] parts = {-1, 2, MIN, MAX};
        for (int part : parts) {
            Scenes.refuse("belief(0, 1, " + part + ")", x -> x.belief(0, 1, part), Due.BAD);
        }
        for (int v = 1; v <= 3; v++) {
            int verb = v;
            Scenes.look("belief(0, " + verb + ", 0)", x -> x.belief(0, verb, 0));
            Scenes.look("belief(last, " + verb + ", 1)", x -> x.belief(x.count(1) - 1, verb, 1));
        }
    }

    /** "(0, if there is none)": no READING with the VERB, no READING at all, nothing written. */
    private static void beliefIsZeroIfThereIsNone() {
        WallReadings x = Due.laid("ra,1,1;rb,1,0;" + KINDS + "wab;");
        for (int k = 0; k < 5; k++) {
            beliefIs(x, k, 3, 0, 1);
        }
        beliefIs(x, 1, 1, 0, 1);
        beliefIs(x, 4, 1, 0, 1);
        x.carve(4);
        for (int k = 0; k < 5; k++) {
            for (int v = 1; v <= 3; v++) {
                beliefIs(x, k, v, 0, 1);
            }
        }
        x = Due.laid("ra,0,1;" + KINDS);
        for (int k = 0; k < 5; k++) {
            beliefIs(x, k, 1, 0, 1);
        }
    }

    private static void beliefIsOneIfInAll() {
        WallReadings x = Due.laid("ra,0,1;rb,1,0;" + KINDS + "wab;");
        beliefIs(x, 0, 1, 1, 1);
        beliefIs(x, 2, 1, 1, 1);
        beliefIs(x, 3, 1, 1, 1);
        x = Due.laid("ra,1,3;" + KINDS + "waaaa;");
        beliefIs(x, 2, 3, 1, 1);
        beliefIs(x, 4, 3, 1, 1);
        beliefIs(x, 0, 3, 7, 8);
    }

    /** "all of them being alike likely, in lowest terms". */
    private static void beliefIsInLowestTerms() {
        WallReadings x = Due.laid("ra,1,1;" + KINDS + "wa;");
        int[] readings = {2, 3, 5, 8, 13, 21, 34, 55, 89};
        for (int n = 0; n < 9; n++) {
            beliefIs(x, 0, 1, readings[n] - 1, readings[n]);
            x.carve(0);
        }
        // aa by A a, a A, a a, and aa: END in 2 of 4.
        x = Due.laid("ra,1,1;raa,1,0;" + KINDS + "waa;");
        Due.is("readings", x.reader(0, 3), 4);
        beliefIs(x, 0, 1, 1, 2);
        // The same and AA: WEIGH in 1 of 5, END in 2 of 5.
        x = Due.laid("ra,1,1;raa,1,2;" + KINDS + "waa;");
        Due.is("readings", x.reader(0, 3), 5);
        beliefIs(x, 0, 1, 2, 5);
        beliefIs(x, 0, 2, 1, 5);
        beliefIs(x, 2, 1, 2, 3);
        beliefIs(x, 2, 2, 1, 3);
        x = new WallReadings();
        beliefIs(x, 0, 1, 12, 25);
        beliefIs(x, 0, 2, 3, 5);
        beliefIs(x, 0, 3, 7, 50);
    }

    /** "the chance that it is in one of his READINGS": of several ROOTS, or several times in a READING, it counts once. */
    private static void beliefIsByReadingsNotWords() {
        WallReadings x = Due.laid("ra,1,2;rb,1,2;" + KINDS + "waba;");
        Due.is("readings", x.reader(0, 3), 5);
        beliefIs(x, 0, 2, 4, 5);
        // The CHILD's are of the LETTERS backwards.
        x = Due.laid("ra,1,0;rb,1,0;rba,0,3;" + KINDS + "wab;");
        beliefIs(x, 0, 3, 0, 1);
        beliefIs(x, 3, 3, 1, 2);
    }

    // ---- promise 18

    private static void withoutRefuses() {
        int[] readers = {-1, 5, 6, MIN, MAX};
        for (int k : readers) {
            Scenes.refuse("without(" + k + ")", x -> x.without(k), Due.BAD);
        }
        Scenes.refuse("without(as many)", x -> x.without(x.count(1)), Due.BAD);
        Scenes.look("without(0)", x -> x.without(0));
        Scenes.look("without(last)", x -> x.without(x.count(1) - 1));
    }

    /** "none (he has none as it is)"; BAD is ahead of it. */
    private static void withoutIsNoneForWhoHasNone() {
        WallReadings x = Due.laid("ra,1,0;rb,0,1;" + KINDS + "wa;");
        Due.is("without(2), no verb", x.without(2), Due.NONE);
        Due.is("without(4), no verb", x.without(4), Due.NONE);
        Due.is("without(0)", x.without(0), 1);
        Due.is("without(5)", x.without(5), Due.BAD);
        x.rub();
        for (int k = 0; k < 5; k++) {
            Due.is("without(" + k + ") of nothing", x.without(k), Due.NONE);
        }
        Due.is("without(-1) of nothing", x.without(-1), Due.BAD);
        Due.is("without(5) of nothing", x.without(5), Due.BAD);
        x.carve(4);
        for (int k = 0; k < 5; k++) {
            Due.is("without(" + k + ") of e", x.without(k), Due.NONE);
        }
        x.undo();
        x.carve(1);
        Due.is("without(1), no nouns", x.without(1), Due.NONE);
        Due.is("without(2)", x.without(2), 2);
    }

    /** None of the ROOTS is needed by itself: no bits, which is not none. */
    private static void withoutOfNoRoot() {
        WallReadings x = Due.laid("ra,1,0;raa,1,0;" + KINDS + "waa;");
        Due.is("without(0) of aa", x.without(0), 0);
        Due.is("without(1) of aa", x.without(1), 0);
        Due.is("without(3) of aa", x.without(3), 0);
        x.rub();
        Due.is("without(0) of a", x.without(0), 1);
    }

    private static void withoutOfTheFirstAndTheLastRoot() {
        String eight = "ra,1,1;rb,1,1;rc,1,1;rd,1,1;re,1,1;raa,1,1;rab,1,1;rbac,1,1;";
        WallReadings x = Due.laid(eight + KINDS);
        int[] due = {1, 2, 4, 8, 16};
        for (int letter = 0; letter < 5; letter++) {
            x.carve(letter);
            Due.is("without(0) of letter " + letter, x.without(0), due[letter]);
            x.rub();
        }
        x = Due.laid("raa,1,1;rbb,1,1;rcc,1,1;rdd,1,1;ree,1,1;rabc,1,1;rbcd,1,1;rcde,1,1;" + KINDS + "wabcbcdcde;");
        Due.is("without(0) of abc bcd cde", x.without(0), 224);
        Due.is("without(1) of abc bcd cde", x.without(1), 224);
        Due.is("without(3) backwards", x.without(3), Due.NONE);
        x = Due.laid("ra,1,0;rb,1,0;rc,1,0;rd,1,0;re,1,0;raa,1,0;rbb,1,0;rcc,0,1;" + KINDS + "wabcdeabcc;");
        Due.is("without(0) of abcdeabcc", x.without(0), 31);
        Due.is("without(2) of abcdeabcc", x.without(2), 159);
        Due.is("without(4) of abcdeabcc", x.without(4), 159);
    }

    /** For a COUNTER by NOUNS alone, for a PROPHET and a QUEEN by VERBS, for a CHILD backwards. A ROOT not known is neither NOUN nor VERB. */
    private static void withoutIsForTheReader() {
        WallReadings x = Due.laid("ra,1,0;rb,1,0;rab,0,1;rba,1,0;" + KINDS + "wab;");
        Due.is("without(0) of ab", x.without(0), 0);
        Due.is("without(1) of ab", x.without(1), 3);
        Due.is("without(2) of ab", x.without(2), 4);
        Due.is("without(3) of ba", x.without(3), 0);
        Due.is("without(4) of ab", x.without(4), 4);
        x = Due.laid("ra,1,1;" + KINDS + "waaa;");
        for (int k = 0; k < 5; k++) {
            Due.is("without(" + k + ") of aaa", x.without(k), 1);
        }
    }

    // ---- promise 19

    private static void shortestRefuses() {
        int[] readers = {-1, 5, 6, MIN, MAX};
        for (int k : readers) {
            Scenes.refuse("shortest(" + k + ", 0)", x -> x.shortest(k, 0), Due.BAD);
            Scenes.refuse("shortest(0, " + k + ")", x -> x.shortest(0, k), Due.BAD);
            Scenes.refuse("shortest(" + k + ", " + k + ")", x -> x.shortest(k, k), Due.BAD);
        }
        Scenes.refuse("shortest(as many, 0)", x -> x.shortest(x.count(1), 0), Due.BAD);
        Scenes.refuse("shortest(0, as many)", x -> x.shortest(0, x.count(1)), Due.BAD);
        Scenes.look("shortest(0, last)", x -> x.shortest(0, x.count(1) - 1));
        Scenes.look("shortest(last, 0)", x -> x.shortest(x.count(1) - 1, 0));
    }

    /** "of rows of 1 to 4 LETTERS": the lowest and a very high one of each length; five LETTERS are too many. */
    private static void shortestIsOfOneToFourLetters() {
        String[] roots = {"ra,0,1;", "re,0,1;", "raa,0,1;", "ree,0,1;", "raaa,0,1;", "reee,0,1;"};
        int[] due = {1, 5, 7, 35, 43, 215};
        for (int n = 0; n < roots.length; n++) {
            WallReadings x = Due.laid(roots[n] + KINDS);
            Due.is("shortest(0, 1) by " + roots[n], x.shortest(0, 1), due[n]);
            Due.is("shortest(2, 1) by " + roots[n], x.shortest(2, 1), due[n]);
        }
        // A VERB of three LETTERS and a NOUN behind it: the PROPHET's, not the QUEEN's.
        WallReadings x = Due.laid("reee,0,1;rd,1,0;" + KINDS);
        Due.is("eeed", x.shortest(2, 4), 5 * 216 + 5 * 36 + 5 * 6 + 4);
        x = Due.laid("raaa,0,1;rb,1,0;" + KINDS);
        Due.is("aaab", x.shortest(2, 4), 216 + 36 + 6 + 2);
        x = Due.laid("reee,0,1;rdd,1,0;" + KINDS);
        Due.is("eeedd is too long", x.shortest(2, 4), Due.NONE);
        x = Due.laid("ree,0,1;rdd,1,0;" + KINDS);
        Due.is("eedd", x.shortest(2, 4), 5 * 216 + 5 * 36 + 4 * 6 + 4);
    }

    /** "the shortest, of several the first by their LETTERS". */
    private static void shortestIsTheFirstOfTheShortest() {
        WallReadings x = Due.laid("raaa,0,1;ree,0,1;" + KINDS);
        Due.is("ee ahead of aaa", x.shortest(0, 1), 35);
        x = Due.laid("raa,0,1;re,0,1;" + KINDS);
        Due.is("e ahead of aa", x.shortest(0, 1), 5);
        x = Due.laid("reb,0,1;rbe,0,1;rda,0,1;" + KINDS);
        Due.is("be ahead of da and eb", x.shortest(0, 1), 2 * 6 + 5);
        x = Due.laid("rac,0,1;rab,0,1;" + KINDS);
        Due.is("ab ahead of ac", x.shortest(0, 1), 8);
        x = Due.laid("rabe,0,1;racb,0,1;raca,0,1;" + KINDS);
        Due.is("abe ahead of aca and acb", x.shortest(0, 1), 36 + 12 + 5);
        x = Due.laid("rd,0,1;rc,1,0;" + KINDS);
        Due.is("dc: verb, then noun", x.shortest(2, 4), 4 * 6 + 3);
        Due.is("c", x.shortest(0, 2), 3);
        Due.is("c too", x.shortest(0, 4), 3);
        Due.is("d", x.shortest(0, 1), 4);
    }

    private static void shortestIsNone() {
        WallReadings x = Due.laid("ra,1,1;" + KINDS);
        for (int k = 0; k < 5; k++) {
            Due.is("shortest(" + k + ", " + k + ")", x.shortest(k, k), Due.NONE);
            Due.is("shortest(" + k + ", 0)", x.shortest(k, 0), Due.NONE);
            Due.is("shortest(" + k + ", 3)", x.shortest(k, 3), Due.NONE);
        }
        x = Due.laid("ra,1,0;" + KINDS);
        Due.is("shortest(2, 0), who never has one", x.shortest(2, 0), Due.NONE);
        Due.is("shortest(0, 2)", x.shortest(0, 2), 1);
        Due.is("shortest(2, 4), neither has one", x.shortest(2, 4), Due.NONE);
    }

    private static void shortestIsWhateverIsWritten() {
        WallReadings x = Due.laid("rb,0,1;rc,1,0;" + KINDS + "g0;");
        Due.is("nothing written", x.shortest(0, 1), 2);
        x.carve(4);
        Due.is("e written", x.shortest(0, 1), 2);
        x.pass(24);
        Due.is("behind FALL", x.shortest(0, 1), 2);
        Due.is("readings of what is written", x.reader(0, 3), 0);
    }

    // ---- promise 20

    private static void untilRefuses() {
        int[] readers = {-1, 5, 6, MIN, MAX};
        for (int k : readers) {
            Scenes.refuse("until(" + k + ")", x -> x.until(k), Due.BAD);
        }
        Scenes.refuse("until(as many)", x -> x.until(x.count(1)), Due.BAD);
        Scenes.look("until(0)", x -> x.until(0));
        Scenes.look("until(last)", x -> x.until(x.count(1) - 1));
    }

    /** "so that END is known ahead of FALL": his hours go by first; in FALL it is too late. */
    private static void untilIsAheadOfFall() {
        for (int hours = 1; hours <= 12; hours++) {
            WallReadings x = Due.laid("ra,0,1;k0," + hours + ",0;wa;v20,6,3;");
            Due.is("until, who takes " + hours, x.until(0), hours == 12 ? Due.NONE : 11 - hours);
            int latest = x.until(0);
            if (latest > 0) {
                x.pass(latest);
            }
            if (latest != Due.NONE) {
                Due.is("until, now, who takes " + hours, x.until(0), latest);
                x.ask(0);
                Due.is("shut an hour ahead", x.shut(), 1);
            } else {
                x.ask(0);
                Due.is("fallen", x.shut(), Due.NO);
            }
        }
    }

    /** "now or behind it". */
    private static void untilIsNowOrLater() {
        WallReadings x = Due.laid("ra,0,1;k0,2,0;wa;v60,24,1;");
        for (int hour = 0; hour < 78; hour += 6) {
            Due.is("until, in hour " + hour, x.until(0), 79);
            x.pass(6);
        }
        Due.is("hour", x.count(3), 78);
        x.pass(1);
        Due.is("until, in hour 79", x.until(0), 79);
        x.pass(1);
        Due.is("until, in hour 80", x.until(0), Due.NONE);
        x.pass(24);
        Due.is("until, behind FALL", x.until(0), Due.NONE);
        x.undo();
        x.undo();
        Due.is("until, in hour 79 again", x.until(0), 79);
    }

    /** Hour 0 is one; what would be ahead of it is none. */
    private static void untilIsHour0AtLeast() {
        Due.is("FALL 1, 1 hour", Due.laid("ra,0,1;k0,1,0;wa;v3,0,1;").until(0), Due.NONE);
        Due.is("FALL 2, 1 hour", Due.laid("ra,0,1;k0,1,0;wa;v3,1,1;").until(0), 0);
        Due.is("FALL 3, 1 hour", Due.laid("ra,0,1;k0,1,0;wa;v3,2,1;").until(0), 1);
        Due.is("FALL 1, 2 hours", Due.laid("ra,0,1;k0,2,0;wa;v3,0,1;").until(0), Due.NONE);
        Due.is("FALL 1, 4 hours", Due.laid("ra,0,1;k0,4,0;wa;v3,0,1;").until(0), Due.NONE);
        Due.is("FALL 13, 12 hours", Due.laid("ra,0,1;k0,12,0;wa;v3,12,1;").until(0), 0);
        Due.is("FALL 12, 12 hours", Due.laid("ra,0,1;k0,12,0;wa;v3,11,1;").until(0), Due.NONE);
    }

    /** "(GOLD aside)". */
    private static void untilIsGoldAside() {
        WallReadings x = Due.laid("ra,0,1;k0,1,60;wa;g0;");
        Due.is("until, no gold", x.until(0), 10);
        x = Due.laid("ra,0,1;k0,1,60;wa;g59;");
        Due.is("until, one short", x.until(0), 10);
        Due.is("ask", x.ask(0), Due.NO);
    }

    /** "none (END is not in what he TELLS". */
    private static void untilIsOfEndInWhatHeTells() {
        WallReadings x = Due.laid("ra,1,1;" + KINDS + "wa;");
        int[] due = {Due.NONE, Due.NONE, 10, 10, 10};
        for (int k = 0; k < 5; k++) {
            Due.is("until(" + k + ") of a", x.until(k), due[k]);
        }
        x.rub();
        for (int k = 0; k < 5; k++) {
            Due.is("until(" + k + ") of nothing", x.until(k), Due.NONE);
        }
        Due.is("until(5) of nothing", x.until(5), Due.BAD);
        x = Due.laid("ra,0,2;rb,0,3;rc,0,1;rd,1,0;k0,1,1;wadb;");
        Due.is("until, WEIGH and DIVIDE told", x.until(0), Due.NONE);
        x.carve(3);
        x.carve(2);
        Due.is("until, all told", x.until(0), 10);
        x.carve(2);
        Due.is("until, no reading", x.until(0), Due.NONE);
    }

    /** It asks what he TELLS, and the hours: not whether END is known already, nor whether the gate is shut. */
    private static void untilIsWhateverIsKnownOrShut() {
        WallReadings x = Due.laid("ra,0,1;k0,1,1;wa;");
        x.ask(0);
        Due.is("until, END known", x.until(0), 10);
        x.shut();
        Due.is("until, shut", x.until(0), 10);
        x.carve(4);
        Due.is("until, END known, none told", x.until(0), Due.NONE);
        x.rub();
        x.pass(10);
        Due.is("until, shut, too late", x.until(0), Due.NONE);
    }

    // ---- promise 21

    private static void enoughIs(String when, WallReadings x, int verbs, int set, int gold, int hours) {
        Due.is("enough(" + verbs + ", 0), " + when, x.enough(verbs, 0), set);
        Due.is("enough(" + verbs + ", 1), " + when, x.enough(verbs, 1), gold);
        Due.is("enough(" + verbs + ", 2), " + when, x.enough(verbs, 2), hours);
    }

    private static void noneIsEnough(String when, WallReadings x, int verbs) {
        enoughIs(when, x, verbs, Due.NONE, Due.NONE, Due.NONE);
    }

    /** "BAD (a set of other bits, or of none)", ahead of NONE. */
    private static void enoughRefuses() {
        int[] sets = {0, 1, 3, 5, 9, 15, 16, 17, 18, 30, 32, 256 + 2, -1, -2, -14, MIN, MIN + 2, MAX, MAX - 1};
        for (int set : sets) {
            Scenes.refuse("enough(" + set + ", 0)", x -> x.enough(set, 0), Due.BAD);
            Scenes.refuseIn(Scenes.Scene.FALLEN, "enough(" + set + ", 2)", x -> x.enough(set, 2), Due.BAD);
        }
        int[] whats = {-1, 3, MIN, MAX};
        for (int what : whats) {
            Scenes.refuse("enough(14, " + what + ")", x -> x.enough(14, what), Due.BAD);
            Scenes.refuse("enough(2, " + what + ")", x -> x.enough(2, what), Due.BAD);
        }
        for (int set = 2; set <= 14; set += 2) {
            for (int what = 0; what < 3; what++) {
                int verbs = set;
                int w = what;
                Scenes.look("enough(" + verbs + ", " + w + ")", x -> x.enough(verbs, w));
            }
        }
    }

    private static void enoughIsOfEachSetOfVerbs() {
        WallReadings x = Due.laid(THREE + "k0,1,1;k3,2,2;k4,3,4;v60,0,1;");
        Due.are("what they tell", new int[] {x.tells(0, 2), x.tells(1, 2), x.tells(2, 2)}, 2, 4, 8);
        enoughIs("each tells one", x, 2, 1, 1, 1);
        enoughIs("each tells one", x, 4, 2, 2, 2);
        enoughIs("each tells one", x, 6, 3, 3, 3);
        enoughIs("each tells one", x, 8, 4, 4, 3);
        enoughIs("each tells one", x, 10, 5, 5, 4);
        enoughIs("each tells one", x, 12, 6, 6, 5);
        enoughIs("each tells one", x, 14, 7, 7, 6);
    }

    /** "can be paid": all of the set together, with just the GOLD there is. */
    private static void enoughCanBePaid() {
        String two = THREE + "k0,1,20;k3,1,30;";
        enoughIs("just paid", Due.laid(two + "g50;"), 6, 3, 50, 2);
        noneIsEnough("one short", Due.laid(two + "g49;"), 6);
        enoughIs("one of them just paid", Due.laid(two + "g20;"), 2, 1, 20, 1);
        noneIsEnough("one short", Due.laid(two + "g19;"), 2);
        enoughIs("the other one just paid", Due.laid(two + "g30;"), 4, 2, 30, 1);
        noneIsEnough("one short", Due.laid(two + "g29;"), 4);
        enoughIs("for nothing", Due.laid(THREE + "k0,1,0;k3,1,0;k4,1,0;g0;"), 14, 7, 0, 3);
        WallReadings x = Due.laid(two + "g50;");
        x.ask(0);
        enoughIs("what is left", x, 6, 2, 30, 1);
        x.ask(1);
        enoughIs("all known", x, 6, 0, 0, 0);
        noneIsEnough("nothing left", x, 8);
    }

    /** "are done ahead of FALL": all of the set, one behind the other. */
    private static void enoughIsAheadOfFall() {
        for (int first = 1; first <= 12; first++) {
            WallReadings x = Due.laid(THREE + "k0," + first + ",1;k3,2,2;v12,0,1;");
            Due.is("FALL", x.count(6), 10);
            if (first < 10) {
                enoughIs("END in " + first, x, 2, 1, 1, first);
            } else {
                noneIsEnough("END in " + first, x, 2);
            }
            if (first + 2 < 10) {
                enoughIs("both in " + first + " and 2", x, 6, 3, 3, first + 2);
            } else {
                noneIsEnough("both in " + first + " and 2", x, 6);
            }
        }
        // The cheaper one is too slow: then the dearer one.
        enoughIs("not too slow", Due.laid("ra,0,1;k0,9,1;k0,1,2;wa;v12,0,1;"), 2, 1, 1, 9);
        enoughIs("too slow", Due.laid("ra,0,1;k0,10,1;k0,1,2;wa;v12,0,1;"), 2, 2, 2, 1);
        noneIsEnough("both too slow", Due.laid("ra,0,1;k0,10,1;k0,12,2;wa;v12,0,1;"), 2);
        noneIsEnough("FALL in hour 1", Due.laid("ra,0,1;k0,1,0;wa;v3,0,1;"), 2);
        enoughIs("FALL in hour 2", Due.laid("ra,0,1;k0,1,0;wa;v3,1,1;"), 2, 1, 0, 1);
    }

    private static void enoughIsOfLeastGold() {
        enoughIs("the second is cheaper", Due.laid("ra,0,1;k0,1,5;k0,9,4;k0,1,6;wa;"), 2, 2, 4, 9);
        enoughIs("the last is cheaper", Due.laid("ra,0,1;k0,1,5;k0,1,5;k0,1,5;k0,1,5;k0,11,4;wa;"), 2, 16, 4, 11);
        // One who tells both VERBS, or two who tell one each.
        String both = "ra,0,1;rcb,1,0;rc,1,0;rb,0,2;rbca,0,2;wacb;k0,3,4;k3,3,4;";
        enoughIs("both by one are dearer", Due.laid(both + "k2,1,9;"), 6, 3, 8, 6);
        enoughIs("both by one are cheaper", Due.laid(both + "k2,9,7;"), 6, 4, 7, 9);
    }

    /** "of several that of fewest hours". */
    private static void enoughIsOfFewestHours() {
        enoughIs("the second is faster", Due.laid("ra,0,1;k0,3,5;k0,2,5;k0,4,5;wa;"), 2, 2, 5, 2);
        enoughIs("the last is faster", Due.laid("ra,0,1;k0,3,5;k0,3,5;k0,3,5;k0,3,5;k0,2,5;wa;"), 2, 16, 5, 2);
        String both = "ra,0,1;rcb,1,0;rc,1,0;rb,0,2;rbca,0,2;wacb;k0,3,4;k3,3,4;";
        enoughIs("both by one are faster", Due.laid(both + "k2,5,8;"), 6, 4, 8, 5);
        enoughIs("both by one are slower", Due.laid(both + "k2,7,8;"), 6, 3, 8, 6);
        // Who costs nothing and is not needed takes hours all the same.
        enoughIs("no more than needed", Due.laid("ra,0,1;k1,1,0;k0,2,0;k1,1,0;wa;"), 2, 2, 0, 2);
    }

    /** "then the lowest as bits". */
    private static void enoughIsTheLowestAsBits() {
        enoughIs("all alike", Due.laid("ra,0,1;k0,2,5;k0,2,5;k0,2,5;k0,2,5;k0,2,5;wa;"), 2, 1, 5, 2);
        enoughIs("the last two alike", Due.laid("ra,0,1;k1,1,1;k1,1,1;k1,1,1;k0,2,5;k0,2,5;wa;"), 2, 8, 5, 2);
        String both = "ra,0,1;rcb,1,0;rc,1,0;rb,0,2;rbca,0,2;wacb;";
        enoughIs("two or a later one", Due.laid(both + "k0,3,4;k3,3,4;k2,6,8;"), 6, 3, 8, 6);
        enoughIs("two or an earlier one", Due.laid(both + "k2,6,8;k0,3,4;k3,3,4;"), 6, 1, 8, 6);
        enoughIs("two or one between them", Due.laid(both + "k0,3,4;k2,6,8;k3,3,4;"), 6, 2, 8, 6);
    }

    private static void enoughOfOneToThreeReaders() {
        enoughIs("the first of five", Due.laid("ra,0,1;k0,1,1;k1,1,1;k1,1,1;k1,1,1;k1,1,1;wa;"), 2, 1, 1, 1);
        enoughIs("the last of five", Due.laid("ra,0,1;k1,1,1;k1,1,1;k1,1,1;k1,1,1;k0,1,1;wa;"), 2, 16, 1, 1);
        enoughIs("three of five", Due.laid(THREE + "k0,4,9;k1,1,1;k3,4,9;k1,1,1;k4,3,12;"), 14, 21, 30, 11);
    }

    /** Then nobody need be ASKED: the set of none, for nothing, if it is ahead of FALL. */
    private static void enoughOfWhatIsKnownAlready() {
        WallReadings x = Due.laid(THREE + "k0,1,1;k3,1,1;k4,1,1;v20,0,1;g60;");
        x.ask(0);
        enoughIs("END known", x, 2, 0, 0, 0);
        enoughIs("END known", x, 6, 2, 1, 1);
        enoughIs("END known", x, 14, 6, 2, 2);
        x.ask(1);
        x.ask(2);
        for (int verbs = 2; verbs <= 14; verbs += 2) {
            enoughIs("all known", x, verbs, 0, 0, 0);
        }
        x.pass(14);
        enoughIs("all known, an hour ahead of FALL", x, 14, 0, 0, 0);
        x.pass(1);
        noneIsEnough("all known, in FALL", x, 14);
        noneIsEnough("all known, in FALL", x, 2);
    }

    /** "(be the gate open or shut)". */
    private static void enoughBeTheGateOpenOrShut() {
        WallReadings x = Due.laid(THREE + "k0,1,1;k3,2,3;v10,0,1;g60;");
        x.ask(0);
        enoughIs("open", x, 6, 2, 3, 2);
        Due.is("shut", x.shut(), 7);
        enoughIs("shut", x, 6, 2, 3, 2);
        x.pass(4);
        enoughIs("shut, just in time", x, 6, 2, 3, 2);
        x.pass(1);
        noneIsEnough("shut, too late", x, 6);
        enoughIs("shut, END known", x, 2, 0, 0, 0);
        x.pass(2);
        noneIsEnough("shut, in FALL", x, 2);
    }

    private static void enoughIsByWhatIsTold() {
        WallReadings x = Due.laid("ra,1,1;k0,1,1;k1,1,1;wa;");
        noneIsEnough("END read but not told", x, 2);
        x = Due.laid("ra,1,1;k0,1,1;k3,1,1;wa;");
        enoughIs("END told by the child", x, 2, 2, 1, 1);
        noneIsEnough("WEIGH told by nobody", x, 4);
        noneIsEnough("END and WEIGH", x, 6);
        x.rub();
        noneIsEnough("nothing written", x, 2);
        x.carve(4);
        noneIsEnough("no readings", x, 2);
    }

    /** "ASKED one behind the other from now on". */
    private static void enoughIsFromNowOn() {
        WallReadings x = Due.laid(THREE + "k0,3,2;k3,4,3;v12,0,1;g60;");
        for (int hour = 0; hour < 11; hour++) {
            if (hour + 7 < 10) {
                enoughIs("both in hour " + hour, x, 6, 3, 5, 7);
            } else {
                noneIsEnough("both in hour " + hour, x, 6);
            }
            if (hour + 4 < 10) {
                enoughIs("WEIGH in hour " + hour, x, 4, 2, 3, 4);
            } else {
                noneIsEnough("WEIGH in hour " + hour, x, 4);
            }
            x.pass(1);
        }
        x.undo();
        x.undo();
        x.undo();
        x.undo();
        x.undo();
        x.undo();
        enoughIs("WEIGH behind undo", x, 4, 2, 3, 4);
    }
}
