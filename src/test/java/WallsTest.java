/** Promises 1 to 10: a new object, THE TEXT, what is laid, READINGS, what is told. */
public final class WallsTest {
    private static final String FIRST =
        "ra,5,1;rb,0,2;rab,12,0;rba,7,3;rc,3,0;rcd,20,2;rd,1,1;rdab,40,0;k0,2,5;k1,1,3;k2,3,12;k3,1,0;k4,4,8;wabacdab;v18,4,3;g25;";

    public static void main(String[] args) {
        aNewObject();
        write();
        wipe();
        fault();
        faultsOfRoots();
        faultsOfReaders();
        faultsOfOthers();
        lay();
        layTakesWhatIsTold();
        root();
        reader();
        reading();
        word();
        childReadsBackwards();
        nothingWritten();
        tells();
        tellsTheFirstOfSeveral();
        tellsOfLessAndLess();
        Due.end("WallsTest");
    }

    private static void aNewObject() {
        WallReadings x = new WallReadings();
        Due.are("counts of a new object", Due.counts(x), 8, 5, 7, 0, 25, 18, 10, 0, 0, 0, 0, 0, 0);
        int[] rows = {1, 2, 8, 13, 3, 22, 4, 152};
        int[] weights = {5, 0, 12, 7, 3, 20, 1, 40};
        int[] verbs = {1, 2, 0, 3, 0, 2, 1, 0};
        for (int r = 0; r < 8; r++) {
            Due.is("new root(" + r + ", 0)", x.root(r, 0), rows[r]);
            Due.is("new root(" + r + ", 1)", x.root(r, 1), weights[r]);
            Due.is("new root(" + r + ", 2)", x.root(r, 2), verbs[r]);
        }
        int[] hours = {2, 1, 3, 1, 4};
        int[] prices = {5, 3, 12, 0, 8};
        int[] readings = {50, 6, 44, 30, 22};
        for (int k = 0; k < 5; k++) {
            Due.is("new reader(" + k + ", 0)", x.reader(k, 0), k);
            Due.is("new reader(" + k + ", 1)", x.reader(k, 1), hours[k]);
            Due.is("new reader(" + k + ", 2)", x.reader(k, 2), prices[k]);
            Due.is("new reader(" + k + ", 3)", x.reader(k, 3), readings[k]);
        }
        Due.is("new fault()", x.fault(), Due.NONE);
        Due.is("new undo()", x.undo(), Due.NO);
        Due.is("new back()", x.back(), Due.NO);
        WallReadings told = Due.laid(FIRST);
        Due.are("counts of the same told", Due.counts(told), Due.counts(x));
    }

    private static void write() {
        WallReadings x = new WallReadings();
        int[] bad = {31, 127, 0, -1, 128, 256 + 'a', Integer.MIN_VALUE, Integer.MAX_VALUE};
        for (int letter : bad) {
            Due.is("write(" + letter + ")", x.write(letter), Due.BAD);
        }
        Due.is("write(32)", x.write(32), 1);
        Due.is("write(126)", x.write(126), 2);
        for (int i = 3; i <= 200; i++) {
            Due.is("write, the " + i + "th", x.write('r'), i);
        }
        Due.is("write, full", x.write('r'), Due.FULL);
        Due.is("write(31), full", x.write(31), Due.BAD);
        Due.is("count(12), full", x.count(12), 200);
        Due.is("fault, full", x.fault(), 0);
    }

    private static void wipe() {
        WallReadings x = new WallReadings();
        Due.is("wipe, empty", x.wipe(), 0);
        Due.write(x, "zz");
        Due.is("fault ahead of wipe", x.fault(), 0);
        Due.is("wipe", x.wipe(), 2);
        Due.is("wipe again", x.wipe(), 0);
        Due.is("fault behind wipe", x.fault(), Due.NONE);
        Due.is("roots behind wipe", x.count(0), 8);
        Due.is("write behind wipe", x.write('a'), 1);
    }

    private static void faultOf(String text, int due) {
        WallReadings x = new WallReadings();
        Due.write(x, text);
        Due.is("fault of " + text, x.fault(), due);
        int[] before = Due.counts(x);
        if (due != Due.NONE) {
            Due.is("lay of " + text, x.lay(), Due.NO);
        }
        Due.are("counts behind the fault of " + text, Due.counts(x), before);
    }

    private static void fault() {
        faultOf("", Due.NONE);
        faultOf(FIRST, Due.NONE);
        faultOf("ra,5,1;k0,1,1", 7);
        faultOf("ra,5,1;k0,1,1;;", 14);
        faultOf("ra,5,1;x;k0,1,1;", 7);
        faultOf("ra,5,1;R;", 7);
        faultOf("ra,5,1; k0,1,1;", 7);
        faultOf(";", 0);
        faultOf("r", 0);
        faultOf("g1;g", 3);
        faultOf("g1;v3,0,1;k0,0,0;ra,0,0;", 10);
    }

    private static void faultsOfRoots() {
        faultOf("rabc,60,3;re,0,1;rd,1,0;", Due.NONE);
        faultOf("ra,00,01;", Due.NONE);
        faultOf("ra,05,03;", Due.NONE);
        String[] wrong = {
            "rabcd,1,1;", "r,1,1;", "rf,1,1;", "rA,1,1;", "ra,61,1;", "ra,1,4;", "ra,0,0;", "ra,00,00;", "ra,001,1;", "ra,1,001;",
            "ra,1;", "ra,1,1,1;", "ra,,1;", "ra,1,;", "ra1,1;", "ra;1,1;", "ra,1;1;", "ra,1,1,", "ra,-1,1;", "ra,1,1 ;", "ra,a,1;"};
        for (String text : wrong) {
            faultOf(text, 0);
            faultOf("g7;" + text, 3);
        }
        faultOf("ra,1,1;rb,1,1;ra,2,2;", 14);
        faultOf("rab,1,1;ra,1,1;rb,1,1;rab,2,0;", 22);
        faultOf("rab,1,1;rba,1,1;raa,1,1;ra,1,1;", Due.NONE);
        String eight = "ra,1,1;rb,1,1;rc,1,1;rd,1,1;re,1,1;raa,1,1;rab,1,1;rac,1,1;";
        faultOf(eight, Due.NONE);
        faultOf(eight + "rad,1,1;", eight.length());
    }

    private static void faultsOfReaders() {
        faultOf("k0,1,0;k4,12,60;k04,01,00;", Due.NONE);
        String[] wrong = {"k5,1,1;", "k0,0,1;", "k0,13,1;", "k0,1,61;", "k,1,1;", "k0,1;", "k0,1,1,1;", "k0,1,100;", "k000,1,1;", "k0;1,1;", "ka,1,1;"};
        for (String text : wrong) {
            faultOf(text, 0);
        }
        String five = "k0,1,1;k0,1,1;k0,1,1;k0,1,1;k0,1,1;";
        faultOf(five, Due.NONE);
        faultOf(five + "k0,1,1;", 35);
    }

    private static void faultsOfOthers() {
        faultOf("wa;wabcdeabcd;", Due.NONE);
        faultOf("v3,0,1;v60,24,20;v03,00,01;", Due.NONE);
        faultOf("g0;g99;g00;", Due.NONE);
        String[] wrong = {
            "w;", "wabcdeabcde;", "wf;", "wa,", "wa,b;", "w1;", "v2,0,1;", "v61,0,1;", "v3,25,1;", "v3,0,0;", "v3,0,21;", "v3,0;", "v3,0,1,1;",
            "g;", "g100;", "g-1;", "g1,", "ga;", "g1 ;"};
        for (String text : wrong) {
            faultOf(text, 0);
        }
    }

    private static void lay() {
        WallReadings x = new WallReadings();
        Due.is("lay, empty", x.lay(), Due.NO);
        Due.write(x, "ra,1,1;");
        Due.is("lay without a reader", x.lay(), Due.NO);
        x.wipe();
        Due.write(x, "k0,1,1;");
        Due.is("lay without a root", x.lay(), Due.NO);
        Due.write(x, "rb,1,1;");
        x.ask(2);
        x.carve(4);
        x.see(0, 1);
        x.keep();
        x.shut();
        int[] before = Due.counts(x);
        Due.is("write a fault", x.write('z'), 15);
        Due.is("lay with a fault", x.lay(), Due.NO);
        before[12] = 15;
        Due.are("counts behind NO", Due.counts(x), before);
        x.wipe();
        Due.write(x, "k0,1,1;rb,1,1;");
        Due.is("lay", x.lay(), 1);
        Due.are("counts behind lay", Due.counts(x), 1, 1, 0, 0, 30, 20, 12, 0, 0, 0, 0, 0, 14);
        Due.is("undo behind lay", x.undo(), Due.NO);
        Due.is("back behind lay", x.back(), Due.NO);
        Due.is("wrote behind lay", x.wrote(0), 780);
        Due.is("lay again", x.lay(), 1);
    }

    private static void layTakesWhatIsTold() {
        WallReadings x = Due.laid("wab;g1;v3,0,1;ra,1,1;k0,1,1;we;g2;v60,24,20;");
        Due.are("the last ones count", Due.counts(x), 1, 1, 1, 0, 2, 60, 27, 0, 0, 0, 0, 0, 0);
        x = Due.laid("ra,1,1;k0,1,1;v3,0,1;");
        Due.is("fall of the shallowest", x.count(6), 1);
        x = Due.laid("ra,1,1;k0,1,1;v5,2,3;");
        Due.is("fall just 2 deep", x.count(6), 3);
        x = Due.laid("ra,1,1;k0,1,1;v6,2,3;");
        Due.is("fall an hour later", x.count(6), 4);
        x = Due.laid("ra,1,1;k0,1,1;v60,24,1;");
        Due.is("the latest fall", x.count(6), 82);
    }

    private static void root() {
        WallReadings x = Due.laid("reee,60,0;ra,0,3;k0,1,1;");
        Due.is("root(0, 0)", x.root(0, 0), 5 * 36 + 5 * 6 + 5);
        Due.is("root(0, 1)", x.root(0, 1), 60);
        Due.is("root(0, 2)", x.root(0, 2), 0);
        Due.is("root(1, 0)", x.root(1, 0), 1);
        Due.is("root(1, 1)", x.root(1, 1), 0);
        Due.is("root(1, 2)", x.root(1, 2), 3);
        int[][] bad = {{2, 0}, {-1, 0}, {0, 3}, {0, -1}, {8, 0}, {Integer.MIN_VALUE, 0}, {0, Integer.MAX_VALUE}};
        for (int[] call : bad) {
            Due.is("root(" + call[0] + ", " + call[1] + ")", x.root(call[0], call[1]), Due.BAD);
        }
    }

    private static void reader() {
        WallReadings x = Due.laid("ra,1,1;k4,12,60;k2,1,0;waa;");
        Due.is("reader(0, 0)", x.reader(0, 0), 4);
        Due.is("reader(0, 1)", x.reader(0, 1), 12);
        Due.is("reader(0, 2)", x.reader(0, 2), 60);
        Due.is("reader(0, 3)", x.reader(0, 3), 1);
        Due.is("reader(1, 3)", x.reader(1, 3), 2);
        int[][] bad = {{2, 0}, {-1, 0}, {0, 4}, {0, -1}, {5, 3}, {Integer.MAX_VALUE, 0}, {0, Integer.MIN_VALUE}};
        for (int[] call : bad) {
            Due.is("reader(" + call[0] + ", " + call[1] + ")", x.reader(call[0], call[1]), Due.BAD);
        }
    }

    /** Of one READING: how many WORDS, what it WEIGHS, VERBS, then its WORDS. */
    private static void readingIs(WallReadings x, int k, int i, int... due) {
        int[] got = new int[due.length];
        for (int n = 0; n < due.length; n++) {
            got[n] = n < 3 ? x.reading(k, i, n) : x.word(k, i, n - 3);
        }
        Due.are("reading and words (" + k + ", " + i + ")", got, due);
        Due.is("word behind the last of (" + k + ", " + i + ")", x.word(k, i, due.length - 3), Due.NONE);
    }

    /** aa by a (NOUN 2, VERB END) and aa (NOUN 9): a a, a A, A a, aa, but never A A. */
    private static void reading() {
        WallReadings x = Due.laid("ra,2,1;raa,9,0;k0,1,1;k1,1,1;k2,1,1;k4,1,1;waa;");
        int[] readings = {4, 2, 2, 1};
        for (int k = 0; k < 4; k++) {
            Due.is("reader(" + k + ", 3)", x.reader(k, 3), readings[k]);
            Due.is("reading(" + k + ", last, 0)", x.reading(k, readings[k], 0), Due.BAD);
            Due.is("word(" + k + ", last, 0)", x.word(k, readings[k], 0), Due.BAD);
        }
        readingIs(x, 0, 0, 2, 4, 0, 0, 0);
        readingIs(x, 0, 1, 2, 2, 2, 0, 1);
        readingIs(x, 0, 2, 2, 2, 2, 1, 0);
        readingIs(x, 0, 3, 1, 9, 0, 2);
        readingIs(x, 1, 0, 2, 4, 0, 0, 0);
        readingIs(x, 1, 1, 1, 9, 0, 2);
        readingIs(x, 2, 0, 2, 2, 2, 0, 1);
        readingIs(x, 2, 1, 2, 2, 2, 1, 0);
        readingIs(x, 3, 0, 2, 2, 2, 0, 1);
        int[][] bad = {{4, 0, 0}, {-1, 0, 0}, {0, -1, 0}, {0, 4, 0}, {0, 0, 3}, {0, 0, -1}, {0, Integer.MAX_VALUE, 0}, {0, Integer.MIN_VALUE, 0}};
        for (int[] call : bad) {
            Due.is("reading(" + call[0] + ", " + call[1] + ", " + call[2] + ")", x.reading(call[0], call[1], call[2]), Due.BAD);
        }
        x = Due.laid("raa,0,3;ra,2,0;rb,0,2;k0,1,1;waab;");
        Due.is("VERBS 3 and 2 not next", x.reader(0, 3), 1);
        readingIs(x, 0, 0, 3, 4, 4, 2, 2, 5);
        x = Due.laid("ra,1,1;rb,1,3;k0,1,1;wab;");
        Due.is("bits of the VERBS", x.reading(0, 1, 2), 8);
        Due.is("the last reading of ab", x.reading(0, 2, 2), 2);
    }

    private static void word() {
        WallReadings x = Due.laid("rb,1,0;ra,0,2;k0,1,1;wba;");
        Due.is("word(0, 0, 0)", x.word(0, 0, 0), 0);
        Due.is("word(0, 0, 1)", x.word(0, 0, 1), 3);
        Due.is("word(0, 0, 2)", x.word(0, 0, 2), Due.NONE);
        Due.is("word(0, 0, max)", x.word(0, 0, Integer.MAX_VALUE), Due.NONE);
        int[][] bad = {{0, 0, -1}, {0, 1, 0}, {0, 1, 9}, {0, -1, 0}, {1, 0, 0}, {-1, 0, 0}, {0, 0, Integer.MIN_VALUE}};
        for (int[] call : bad) {
            Due.is("word(" + call[0] + ", " + call[1] + ", " + call[2] + ")", x.word(call[0], call[1], call[2]), Due.BAD);
        }
        x = Due.laid("ra,1,0;k0,1,1;waaaaaaaaa;");
        Due.is("word(0, 0, 8) of nine", x.word(0, 0, 8), 0);
        Due.is("word(0, 0, 9) of nine", x.word(0, 0, 9), Due.NONE);
    }

    private static void childReadsBackwards() {
        WallReadings x = Due.laid("rabc,5,0;rc,1,0;rba,0,1;k0,1,1;k3,1,1;wabc;");
        Due.is("forwards", x.reader(0, 3), 1);
        Due.is("backwards", x.reader(1, 3), 1);
        readingIs(x, 0, 0, 1, 5, 0, 0);
        readingIs(x, 1, 0, 2, 1, 2, 2, 5);
    }

    private static void nothingWritten() {
        WallReadings x = Due.laid("ra,1,1;k0,1,1;k1,1,1;k2,1,1;k3,1,1;k4,1,1;");
        for (int k = 0; k < 5; k++) {
            Due.is("reader(" + k + ", 3) of nothing", x.reader(k, 3), 0);
            Due.is("reading(" + k + ", 0, 0) of nothing", x.reading(k, 0, 0), Due.BAD);
            Due.is("word(" + k + ", 0, 0) of nothing", x.word(k, 0, 0), Due.BAD);
            Due.is("tells(" + k + ", 0) of nothing", x.tells(k, 0), Due.NONE);
        }
    }

    private static void tellsAre(WallReadings x, int k, int which, int weight, int verbs) {
        Due.is("tells(" + k + ", 0)", x.tells(k, 0), which);
        Due.is("tells(" + k + ", 1)", x.tells(k, 1), weight);
        Due.is("tells(" + k + ", 2)", x.tells(k, 2), verbs);
    }

    private static void tells() {
        WallReadings x = new WallReadings();
        tellsAre(x, 0, 0, 19, 4);
        tellsAre(x, 1, 4, 60, 0);
        tellsAre(x, 2, 2, 18, 6);
        tellsAre(x, 3, 29, 16, 10);
        tellsAre(x, 4, 0, 19, 4);
        int[][] bad = {{5, 0}, {-1, 0}, {0, 3}, {0, -1}, {Integer.MIN_VALUE, 1}, {1, Integer.MAX_VALUE}};
        for (int[] call : bad) {
            Due.is("tells(" + call[0] + ", " + call[1] + ")", x.tells(call[0], call[1]), Due.BAD);
        }
        x = Due.laid("ra,1,0;k0,1,1;k2,1,1;k4,1,1;wb;");
        for (int what = 0; what < 3; what++) {
            Due.is("tells(0, " + what + ") of none", x.tells(0, what), Due.NONE);
        }
        Due.is("tells(0, 3) of none", x.tells(0, 3), Due.BAD);
    }

    /** Of what WEIGHS alike, or has as many VERBS, the first; a SCRIBE and a QUEEN tell the first, a CHILD the last. */
    private static void tellsTheFirstOfSeveral() {
        WallReadings x = Due.laid("ra,2,0;raa,4,1;raaa,6,2;k0,1,1;k1,1,1;k2,1,1;k3,1,1;k4,1,1;waaa;");
        Due.is("scribe of aaa", x.reader(0, 3), 7);
        tellsAre(x, 0, 0, 6, 0);
        tellsAre(x, 1, 0, 6, 0);
        tellsAre(x, 2, 0, 2, 2);
        tellsAre(x, 3, 6, 0, 4);
        tellsAre(x, 4, 0, 2, 2);
        x = Due.laid("ra,1,0;rab,9,0;rb,8,0;rc,0,1;rd,3,0;rdc,0,3;k1,1,1;k2,1,1;wabd;");
        tellsAre(x, 0, 0, 12, 0);
        Due.is("prophet without a verb", x.tells(1, 0), Due.NONE);
        Due.is("carve c", x.carve(2), 4);
        Due.is("counter without his nouns", x.tells(0, 0), Due.NONE);
        tellsAre(x, 1, 0, 12, 2);
        x = Due.laid("ra,0,1;rb,0,1;rab,3,2;rc,1,1;k2,1,1;wcabc;");
        Due.is("prophet of cabc", x.reader(0, 3), 4);
        tellsAre(x, 0, 3, 3, 2);
    }

    /** What was told of a longer row ahead of it must not count. */
    private static void tellsOfLessAndLess() {
        String told = "rb,5,0;rc,0,1;ra,1,0;rab,9,1;rcb,3,3;k2,1,1;k1,1,1;k3,1,1;w";
        String row = "bcbabcbab";
        WallReadings x = Due.laid(told + row + ";");
        for (int n = 9; n >= 1; n--) {
            WallReadings fresh = Due.laid(told + row.substring(0, n) + ";");
            for (int k = 0; k < 3; k++) {
                tellsAre(x, k, fresh.tells(k, 0), fresh.tells(k, 1), fresh.tells(k, 2));
            }
            x.rub();
        }
    }
}
