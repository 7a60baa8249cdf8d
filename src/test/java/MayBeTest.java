/** Promises 17 to 21: BELIEF, WITHOUT, SHORTEST, UNTIL, ENOUGH. */
public final class MayBeTest {
    public static void main(String[] args) {
        belief();
        without();
        shortest();
        shortestIsFirstByLetters();
        until();
        enough();
        enoughOfSeveral();
        enoughBehindOthers();
        badArguments();
        Due.end("MayBeTest");
    }

    private static void beliefIs(WallReadings x, int k, int v, int above, int below) {
        Due.is("belief(" + k + ", " + v + ", 0)", x.belief(k, v, 0), above);
        Due.is("belief(" + k + ", " + v + ", 1)", x.belief(k, v, 1), below);
    }

    private static void belief() {
        WallReadings x = new WallReadings();
        beliefIs(x, 0, 1, 12, 25);
        beliefIs(x, 0, 2, 3, 5);
        beliefIs(x, 0, 3, 7, 50);
        beliefIs(x, 1, 1, 0, 1);
        beliefIs(x, 4, 2, 1, 1);
        // Four READINGS of ab: A b, a B, a b, and ab. END is in one, DIVIDE in none.
        x = Due.laid("ra,1,1;rb,1,2;rab,2,0;k0,1,1;k4,1,1;k2,1,1;wab;");
        beliefIs(x, 0, 1, 1, 4);
        beliefIs(x, 0, 2, 1, 4);
        beliefIs(x, 0, 3, 0, 1);
        beliefIs(x, 1, 1, 0, 1);
        beliefIs(x, 1, 2, 1, 1);
        beliefIs(x, 2, 1, 1, 2);
        x.carve(4);
        beliefIs(x, 0, 1, 0, 1);
        // The same VERB by two ROOTS, and twice in one READING, counts once.
        x = Due.laid("ra,1,1;rb,1,1;k0,1,1;waba;");
        Due.is("reader(0, 3) of aba", x.reader(0, 3), 5);
        beliefIs(x, 0, 1, 4, 5);
    }

    private static void without() {
        WallReadings x = new WallReadings();
        Due.is("without(0)", x.without(0), 1);
        Due.is("without(3)", x.without(3), 81);
        x = Due.laid("rc,1,1;ra,1,0;rb,1,0;rab,1,0;k0,1,1;k2,1,1;k3,1,1;k1,1,1;wabc;");
        Due.is("without(0) of abc", x.without(0), 1);
        Due.is("without(1) of abc", x.without(1), 1);
        Due.is("without(2) of cba", x.without(2), 7);
        Due.is("without(3) of abc", x.without(3), 1);
        x.rub();
        Due.is("without(0) of ab", x.without(0), 0);
        Due.is("without(1) of ab", x.without(1), Due.NONE);
        Due.is("without(2) of ba", x.without(2), 6);
        x.rub();
        x.rub();
        Due.is("without(0) of nothing", x.without(0), Due.NONE);
        // The eighth ROOT is bit 7.
        x = Due.laid("ra,1,0;rb,1,0;rc,1,0;rd,1,0;rab,1,0;rac,1,0;rad,1,0;re,1,0;k0,1,1;we;");
        Due.is("without(0) of e", x.without(0), 128);
    }

    private static void shortest() {
        WallReadings x = new WallReadings();
        Due.is("shortest(0, 1)", x.shortest(0, 1), 2);
        x = Due.laid("ra,1,0;rb,0,1;k0,1,1;k1,1,1;k2,1,1;k4,1,1;k3,1,1;");
        Due.is("scribe, counter: b", x.shortest(0, 1), 2);
        Due.is("scribe, prophet: a", x.shortest(0, 2), 1);
        Due.is("counter, scribe", x.shortest(1, 0), Due.NONE);
        Due.is("prophet, queen: ba", x.shortest(2, 3), 13);
        Due.is("scribe, child", x.shortest(0, 4), Due.NONE);
        Due.is("scribe, himself", x.shortest(0, 0), Due.NONE);
        x = Due.laid("rabc,1,0;k0,1,1;k3,1,1;");
        Due.is("scribe, child: abc", x.shortest(0, 1), 51);
        Due.is("child, scribe: cba", x.shortest(1, 0), 3 * 36 + 2 * 6 + 1);
    }

    private static void shortestIsFirstByLetters() {
        WallReadings x = Due.laid("re,0,1;rbd,0,1;raaa,0,1;k0,1,1;k1,1,1;");
        Due.is("the shortest, not the first by letters", x.shortest(0, 1), 5);
        x = Due.laid("rba,0,1;rab,0,1;raaa,0,1;k0,1,1;k1,1,1;");
        Due.is("of two letters the first", x.shortest(0, 1), 8);
        x = Due.laid("raaa,1,0;rbbb,1,0;re,0,1;rd,0,2;rab,1,0;k4,1,1;k1,1,1;k2,1,1;");
        Due.is("prophet, queen: dab", x.shortest(2, 0), 4 * 36 + 6 + 2);
        x = Due.laid("raaa,1,0;rbbb,1,0;re,0,1;k4,1,1;k1,1,1;k2,1,1;");
        Due.is("prophet, queen: eaaa", x.shortest(2, 0), 5 * 216 + 43);
        x = Due.laid("reee,1,0;re,0,1;k0,1,1;k2,1,1;");
        Due.is("prophet, scribe", x.shortest(1, 0), Due.NONE);
        Due.is("scribe, prophet: eee", x.shortest(0, 1), 215);
        x = Due.laid("reee,1,0;re,0,1;k4,1,1;k1,1,1;");
        Due.is("queen, counter: e", x.shortest(0, 1), 5);
        // Rows of five LETTERS are none that are looked at.
        x = Due.laid("rabc,1,0;rde,0,1;k4,1,1;k3,1,1;k2,1,1;k0,1,1;");
        Due.is("prophet, queen: five letters", x.shortest(2, 0), Due.NONE);
        Due.is("scribe, child: de", x.shortest(3, 1), 29);
    }

    private static void until() {
        WallReadings x = Due.laid("ra,0,1;rb,0,2;rc,1,0;k0,3,60;wa;g0;v18,4,3;");
        Due.is("FALL", x.count(6), 10);
        Due.is("until(0), no gold", x.until(0), 6);
        x.pass(6);
        Due.is("until(0), now", x.until(0), 6);
        x.pass(1);
        Due.is("until(0), too late", x.until(0), Due.NONE);
        x.undo();
        x.rub();
        Due.is("until(0), none told", x.until(0), Due.NONE);
        x.carve(1);
        Due.is("until(0), WEIGH told", x.until(0), Due.NONE);
        x.carve(2);
        x.carve(0);
        Due.is("until(0), END told", x.until(0), 6);
        x = Due.laid("ra,1,1;k0,1,0;k4,2,0;wa;");
        Due.is("until(0), END read but not told", x.until(0), Due.NONE);
        Due.is("until(1)", x.until(1), 9);
        x = Due.laid("ra,0,1;k0,12,0;wa;v3,0,1;");
        Due.is("until(0), too late from the first", x.until(0), Due.NONE);
    }

    private static void enoughIs(WallReadings x, int verbs, int set, int gold, int hours) {
        Due.is("enough(" + verbs + ", 0)", x.enough(verbs, 0), set);
        Due.is("enough(" + verbs + ", 1)", x.enough(verbs, 1), gold);
        Due.is("enough(" + verbs + ", 2)", x.enough(verbs, 2), hours);
    }

    private static void noneIsEnough(WallReadings x, int verbs) {
        enoughIs(x, verbs, Due.NONE, Due.NONE, Due.NONE);
    }

    private static void enough() {
        WallReadings x = Due.laid("ra,3,0;raa,0,1;rb,0,2;rab,0,3;k0,2,5;k3,3,6;k2,4,7;wab;g30;v18,4,3;");
        for (int k = 0; k < 3; k++) {
            Due.is("tells(" + k + ", 2) of ab", x.tells(k, 2), 4);
        }
        enoughIs(x, 4, 1, 5, 2);
        noneIsEnough(x, 8);
        noneIsEnough(x, 12);
        // The SCRIBE tells A c B of acb, the CHILD bc A of bca.
        x = Due.laid("ra,0,1;rb,0,2;rc,1,0;rcb,1,0;rbc,2,0;k0,2,5;k3,3,4;wacb;g9;v18,4,3;");
        Due.is("tells(0, 2) of acb", x.tells(0, 2), 6);
        Due.is("tells(1, 2) of bca", x.tells(1, 2), 2);
        enoughIs(x, 2, 2, 4, 3);
        enoughIs(x, 4, 1, 5, 2);
        enoughIs(x, 6, 1, 5, 2);
        noneIsEnough(x, 8);
        // Who has no READING tells no VERB.
        x.carve(4);
        noneIsEnough(x, 2);
    }

    private static void enoughOfSeveral() {
        // All tell A. Of least gold, of those of fewest hours, of those the lowest.
        WallReadings x = Due.laid("ra,0,1;k0,2,5;k0,3,4;k0,2,4;k0,2,4;wa;");
        enoughIs(x, 2, 4, 4, 2);
        // The SCRIBE tells A b of ab, the CHILD ba of ba: both are needed, for 9 GOLD, in 7 hours.
        String two = "ra,0,1;rb,3,0;rba,0,2;k0,3,4;k3,4,5;wab;";
        x = Due.laid(two + "g9;v10,0,1;");
        Due.is("tells(0, 2)", x.tells(0, 2), 2);
        Due.is("tells(1, 2)", x.tells(1, 2), 4);
        enoughIs(x, 6, 3, 9, 7);
        x = Due.laid(two + "g8;v10,0,1;");
        noneIsEnough(x, 6);
        enoughIs(x, 2, 1, 4, 3);
        x = Due.laid(two + "g9;v9,0,1;");
        Due.is("FALL in the very hour", x.count(6), 7);
        noneIsEnough(x, 6);
        // The SCRIBE tells A cb of acb, the CHILD bca of bca, the PROPHET A c B of acb.
        String three = "ra,0,1;rcb,1,0;rc,1,0;rb,0,2;rbca,0,2;wacb;g99;k0,3,4;k3,3,4;";
        x = Due.laid(three + "k2,1,9;");
        Due.are("verbs told", new int[] {x.tells(0, 2), x.tells(1, 2), x.tells(2, 2)}, 2, 4, 6);
        enoughIs(x, 6, 3, 8, 6);
        x = Due.laid(three + "k2,1,8;");
        enoughIs(x, 6, 4, 8, 1);
        x = Due.laid(three + "k2,6,8;");
        enoughIs(x, 6, 3, 8, 6);
    }

    private static void enoughBehindOthers() {
        String two = "ra,0,1;rb,3,0;rba,0,2;k0,3,4;k3,4,5;wab;";
        WallReadings x = Due.laid(two + "g30;v10,0,1;");
        Due.is("ask(0)", x.ask(0), 2);
        enoughIs(x, 6, 2, 5, 4);
        enoughIs(x, 2, 0, 0, 0);
        x.pass(1);
        noneIsEnough(x, 6);
        enoughIs(x, 2, 0, 0, 0);
        x.undo();
        x.shut();
        enoughIs(x, 6, 2, 5, 4);
        x.pass(24);
        noneIsEnough(x, 6);
        noneIsEnough(x, 2);
    }

    private static void badArguments() {
        WallReadings x = Due.laid("ra,1,1;k0,1,1;k0,1,1;");
        int[] bad = {-1, 2, 5, Integer.MIN_VALUE, Integer.MAX_VALUE};
        for (int k : bad) {
            Due.is("belief(" + k + ", 1, 0)", x.belief(k, 1, 0), Due.BAD);
            Due.is("belief(0, 1, " + k + ")", x.belief(0, 1, k), Due.BAD);
            Due.is("without(" + k + ")", x.without(k), Due.BAD);
            Due.is("shortest(" + k + ", 0)", x.shortest(k, 0), Due.BAD);
            Due.is("shortest(0, " + k + ")", x.shortest(0, k), Due.BAD);
            Due.is("until(" + k + ")", x.until(k), Due.BAD);
        }
        int[] verbs = {0, 4, -1, Integer.MIN_VALUE, Integer.MAX_VALUE};
        for (int v : verbs) {
            Due.is("belief(0, " + v + ", 0)", x.belief(0, v, 0), Due.BAD);
        }
        int[] sets = {0, 1, 3, 15, 16, 18, -2, Integer.MIN_VALUE, Integer.MAX_VALUE};
        for (int set : sets) {
            Due.is("enough(" + set + ", 0)", x.enough(set, 0), Due.BAD);
        }
        int[] whats = {-1, 3, Integer.MIN_VALUE, Integer.MAX_VALUE};
        for (int what : whats) {
            Due.is("enough(14, " + what + ")", x.enough(14, what), Due.BAD);
        }
        Due.is("enough(14, 0)", x.enough(14, 0), Due.NONE);
    }
}
