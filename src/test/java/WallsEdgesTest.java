/** The edges that promises 1 to 10 name, and what Terms say of THE TEXT, of READINGS and of what is told: each in a test of its own. */
public final class WallsEdgesTest {
    private static final int MIN = Integer.MIN_VALUE, MAX = Integer.MAX_VALUE;

    public static void main(String[] args) {
        newObjectStandsAtFirst();
        newObjectsShareNothing();
        the512thCallIsAnswered();
        writeTakesEachLetterOfAscii();
        writeRefusesOtherLetters();
        textIsFullWith200();
        wipeOfNoneOneAndAll();
        wipeTouchesTheTextAlone();
        faultOfAnEmptyText();
        faultOnlyLooks();
        faultIsOfTheFirstItem();
        faultAtTheLastPlace();
        itemsAreOfFiveLetters();
        itemsArePartedAndEnded();
        numbersAreOfOneOrTwoFigures();
        rootHasOneToThreeLetters();
        lettersAreAToE();
        rootIsUnlikeAllToldAhead();
        rootWeighsUpTo60();
        rootSaysUpTo3();
        rootIsNotZeroBoth();
        eightRootsAtMost();
        readerIsOfKindZeroToFour();
        readerTakesOneTo12Hours();
        readerCostsUpTo60();
        fiveReadersAtMost();
        writingIsOfOneToNineLetters();
        riverIs3To60Deep();
        riverIsTurnedInHour0To24();
        riverFallsBy1To20();
        goldIsUpTo99();
        layNeedsARootAndAReader();
        layRefusesAFault();
        layOfTheFewestAndTheMost();
        layBeginsAnew();
        layKeepsNothingOfWhatWasLaid();
        theTextStaysBehindLay();
        whatIsNotTold();
        theLastOneCounts();
        rootsSuchAsThereAre();
        readersSuchAsThereAre();
        readingsSuchAsThereAre();
        readingIsOfOneWordAtLeast();
        wordIsNounOrVerb();
        noTwoVerbsNextToEachOther();
        eachKindHasItsReadings();
        childReadsBackwards();
        queenEndsWithAVerb();
        readingsAreNumbered();
        rootsAreReadToTheLastLetter();
        weightIsOfNounsAlone();
        wordsSuchAsThereAre();
        tellsNone();
        counterTellsTheHeaviest();
        prophetTellsMostVerbs();
        childTellsTheLast();
        othersTellTheFirst();
        Due.end("WallsEdgesTest");
    }

    // ---- promise 1

    /** "At first it is hour 0, no VERB is known, the gate is open", and the TEXT that is LAID at first. */
    private static void newObjectStandsAtFirst() {
        WallReadings x = new WallReadings();
        Due.are("counts of a new object", Due.counts(x), 8, 5, 7, 0, 25, 18, 10, 0, 0, 0, 0, 0, 0);
        int[] roots = {1, 5, 1, 2, 0, 2, 8, 12, 0, 13, 7, 3, 3, 3, 0, 22, 20, 2, 4, 1, 1, 152, 40, 0};
        for (int n = 0; n < roots.length; n++) {
            Due.is("root(" + n / 3 + ", " + n % 3 + "), new", x.root(n / 3, n % 3), roots[n]);
        }
        int[] readers = {0, 2, 5, 1, 1, 3, 2, 3, 12, 3, 1, 0, 4, 4, 8};
        for (int n = 0; n < readers.length; n++) {
            Due.is("reader(" + n / 3 + ", " + n % 3 + "), new", x.reader(n / 3, n % 3), readers[n]);
        }
        Due.is("root(8, 0), new", x.root(8, 0), Due.BAD);
        Due.is("reader(5, 2), new", x.reader(5, 2), Due.BAD);
        Due.is("fault, new", new WallReadings().fault(), Due.NONE);
        Due.is("lay, new", new WallReadings().lay(), Due.NO);
        Due.is("shut, new", new WallReadings().shut(), Due.NO);
        Due.is("undo, new", new WallReadings().undo(), Due.NO);
        Due.is("back, new", new WallReadings().back(), Due.NO);
        Due.is("forget, new", new WallReadings().forget(), 0);
        Due.is("wipe, new", new WallReadings().wipe(), 0);
        Due.is("write, new", new WallReadings().write('r'), 1);
        Due.is("rub, new", new WallReadings().rub(), 6);
        Due.is("carve, new", new WallReadings().carve(0), 8);
        Due.is("keep, new", new WallReadings().keep(), 1);
        Due.is("wrote, new", new WallReadings().wrote(0), 780);
    }

    private static void newObjectsShareNothing() {
        WallReadings x = new WallReadings();
        int[] before = Due.counts(x);
        for (Scenes.Scene scene : Scenes.Scene.values()) {
            scene.make();
            Due.are("an object when another one is used, " + scene, Due.counts(x), before);
            Due.are("a new object behind another one, " + scene, Due.counts(new WallReadings()), before);
            Due.is("readings when another one is used, " + scene, x.reader(0, 3), 50);
        }
    }

    /** "An object is used for at most 512 calls": so the 512th is still answered. */
    private static void the512thCallIsAnswered() {
        WallReadings x = new WallReadings();
        for (int n = 1; n <= 511; n++) {
            Due.is("pass(24), call " + n, x.pass(24), 0);
        }
        Due.is("hours at call 512", x.count(3), 511 * 24);
        x = new WallReadings();
        for (int n = 1; n <= 511; n++) {
            Due.is("ask(3), call " + n, x.ask(3), 10);
        }
        Due.is("hours at call 512, asked", x.count(3), 511);
        x = new WallReadings();
        for (int n = 1; n <= 510; n++) {
            Due.is("write, call " + n, x.write('g'), n <= 200 ? n : Due.FULL);
        }
        Due.is("wipe at call 511", x.wipe(), 200);
        Due.is("write at call 512", x.write('g'), 1);
    }

    // ---- promises 2 and 3

    /** "A letter (32 to 126, as in ASCII)". */
    private static void writeTakesEachLetterOfAscii() {
        WallReadings x = new WallReadings();
        WallReadings behind = Scenes.Scene.BUSY.make();
        for (int letter = 32; letter <= 126; letter++) {
            Due.is("write(" + letter + ")", x.write(letter), letter - 31);
            Due.is("write(" + letter + ") behind 4", behind.write(letter), letter - 27);
            Due.is("write(" + letter + ") at first", new WallReadings().write(letter), 1);
        }
        Due.is("count(12)", x.count(12), 95);
        Due.is("count(12) behind 4", behind.count(12), 99);
    }

    private static void writeRefusesOtherLetters() {
        int[] none = {31, 127, 0, -1, 10, 128, 255, 256 + 'g', 65536 + 'g', -126, MIN, MAX};
        for (int letter : none) {
            Scenes.refuse("write(" + letter + ")", x -> x.write(letter), Due.BAD);
        }
    }

    /** "A TEXT is letters (200 at most)"; "BAD; FULL". */
    private static void textIsFullWith200() {
        WallReadings x = new WallReadings();
        Scenes.put(x, "g1;".repeat(66));
        Due.is("the 199th", x.write('g'), 199);
        Due.is("the 200th", x.write('1'), 200);
        Due.is("the 201st", x.write(';'), Due.FULL);
        Due.is("how long", x.count(12), 200);
        Due.is("the last ITEM has no end", x.fault(), 198);
        Scenes.refuseIn(Scenes.Scene.FULL, "write(32), full", y -> y.write(32), Due.FULL);
        Scenes.refuseIn(Scenes.Scene.FULL, "write(126), full", y -> y.write(126), Due.FULL);
        Scenes.refuseIn(Scenes.Scene.FULL, "write(31), full", y -> y.write(31), Due.BAD);
        Scenes.refuseIn(Scenes.Scene.FULL, "write(127), full", y -> y.write(127), Due.BAD);
        x = Scenes.Scene.FULL.make();
        x.write('z');
        Due.is("200 letters are laid, the 201st not", x.lay(), 2);
        Due.is("by the last ITEM", x.count(4), 7);
        Due.is("wipe of 200", x.wipe(), 200);
        Due.is("write behind it", x.write('z'), 1);
    }

    /** "THE TEXT is empty: how long it was." */
    private static void wipeOfNoneOneAndAll() {
        WallReadings x = new WallReadings();
        Due.is("wipe of none", x.wipe(), 0);
        x.write('z');
        Due.is("wipe of one", x.wipe(), 1);
        Due.is("wipe of none again", x.wipe(), 0);
        Due.is("count(12)", x.count(12), 0);
        Due.is("fault behind wipe", x.fault(), Due.NONE);
        Due.is("lay behind wipe", x.lay(), Due.NO);
        Scenes.put(x, "g1;".repeat(66) + "g");
        Due.is("wipe of 199", x.wipe(), 199);
        Scenes.put(x, Scenes.LONGEST);
        Due.is("wipe of 200", x.wipe(), 200);
        Due.is("write behind wipe", x.write(';'), 1);
        Due.is("what was wiped does not come back", x.fault(), 0);
    }

    private static void wipeTouchesTheTextAlone() {
        for (Scenes.Scene scene : Scenes.Scene.values()) {
            WallReadings x = scene.make();
            int[] due = Due.counts(x);
            Due.is("wipe in " + scene, x.wipe(), due[12]);
            due[12] = 0;
            Due.are("counts behind wipe in " + scene, Due.counts(x), due);
        }
    }

    // ---- promise 4: FAULT

    /** On a fresh object, behind another TEXT wiped, and behind another TEXT laid; and LAID only without FAULT. */
    private static void faultIs(String text, int due) {
        WallReadings[] objects = {new WallReadings(), new WallReadings(), Due.laid("rab,3,1;re,1,0;k4,2,1;we;v30,2,1;g3;")};
        Scenes.put(objects[1], "rab,3,1;re,1,0;k4,2,1;zz");
        objects[1].wipe();
        for (WallReadings x : objects) {
            Scenes.put(x, text);
            Due.is("fault of " + text, x.fault(), due);
            Due.is("how long behind fault of " + text, x.count(12), text.length());
            if (due != Due.NONE) {
                Due.is("lay of " + text, x.lay(), Due.NO);
            }
        }
    }

    /** So, as the first ITEM, behind others and ahead of another one. */
    private static void isSo(String item) {
        faultIs(item, Due.NONE);
        faultIs("g1;v3,0,1;" + item, Due.NONE);
        faultIs(item + "g1;", Due.NONE);
    }

    /** Not so, as the first ITEM, behind others, ahead of another one, and ahead of another fault. */
    private static void isNotSo(String item) {
        faultIs(item, 0);
        faultIs("g1;v3,0,1;" + item, 10);
        faultIs(item + "g1;", 0);
        faultIs("g1;" + item + "z;", 3);
    }

    private static void faultOfAnEmptyText() {
        faultIs("", Due.NONE);
        WallReadings x = Scenes.Scene.BUSY.make();
        Due.is("fault behind g5;", x.fault(), 3);
        x.wipe();
        Due.is("fault of what is wiped", x.fault(), Due.NONE);
    }

    private static void faultOnlyLooks() {
        Scenes.look("fault()", WallReadings::fault);
        String[] texts = {
            "ra,1,1;k0,1,1;", "ra,1,1;k0,1,1;we;v3,0,1;g9;z", "rb,1,1;rb", "k1,1,1;k5",
            "re,9,3;k3,12,60;k3,12,60;k3,12,60;k3,12,60;k3,12,60;we;v60,24,1;g99;",
            "re,9,3;k3,12,60;k3,12,60;k3,12,60;k3,12,60;k3,12,60;we;v60,24,1;g99;,"};
        for (String text : texts) {
            for (Scenes.Scene scene : Scenes.Scene.values()) {
                WallReadings x = scene.make();
                x.wipe();
                Scenes.put(x, text);
                int due = x.fault();
                Scenes.refuseBehind(scene, y -> {
                    y.wipe();
                    Scenes.put(y, text);
                }, "fault of " + text, WallReadings::fault, due);
            }
        }
    }

    /** "the place of the first letter of the first ITEM that is not so". */
    private static void faultIsOfTheFirstItem() {
        faultIs("z", 0);
        faultIs("g1;z", 3);
        faultIs("g01;z", 4);
        faultIs("g1;g1", 3);
        faultIs("g1;g1,;g1;", 3);
        faultIs("g1;z;y;", 3);
        faultIs("z;g1;", 0);
        faultIs("g1;;g1;", 3);
        faultIs("ra,1,1;k0,1,61;", 7);
        faultIs("ra,1,1;k0,1,60;wabcdeabcde;", 15);
        faultIs("ra,1,1;k0,1,60;wabcdeabcd;v3,0,0;", 26);
        faultIs(Scenes.FIRST, Due.NONE);
        for (int length = 1; length < Scenes.FIRST.length(); length++) {
            String cut = Scenes.FIRST.substring(0, length);
            int end = cut.lastIndexOf(';') + 1;
            WallReadings x = new WallReadings();
            Scenes.put(x, cut);
            Due.is("fault of " + cut, x.fault(), end == length ? Due.NONE : end);
        }
    }

    private static void faultAtTheLastPlace() {
        String good = "ra,1,1;k0,1,1;" + "g1;".repeat(59) + "g01;g02;";
        faultIs(good, Due.NONE);
        faultIs(good + "g", 199);
        faultIs(good + ";", 199);
        faultIs(Scenes.LONGEST, Due.NONE);
        faultIs(Scenes.LONGEST.substring(0, 199), 196);
        faultIs(Scenes.LONGEST.substring(0, 199) + ",", 196);
    }

    private static void itemsAreOfFiveLetters() {
        String[] tails = {"a,1,1;", "0,1,1;", "a;", "3,0,1;", "1;"};
        for (char letter = 32; letter <= 126; letter++) {
            for (int n = 0; n < tails.length; n++) {
                boolean so = letter == "rkwvg".charAt(n);
                WallReadings x = new WallReadings();
                Scenes.put(x, "g1;" + letter + tails[n]);
                Due.is("fault of g1;" + letter + tails[n], x.fault(), so ? Due.NONE : 3);
            }
        }
    }

    /** "parted by , and a ; behind it". */
    private static void itemsArePartedAndEnded() {
        String[] good = {"rab,1,2;", "k3,4,5;", "wabc;", "v6,7,8;", "g9;"};
        for (String item : good) {
            isSo(item);
            isNotSo(item.substring(0, item.length() - 1) + ",");
            isNotSo(item.substring(0, item.length() - 1) + " ;");
            isNotSo(item.substring(0, item.length() - 1) + ":");
            isNotSo(item.substring(0, item.length() - 1) + ",;");
            isNotSo(item.substring(0, item.length() - 1) + ",1;");
            isNotSo(" " + item);
            isNotSo(item.charAt(0) + "," + item.substring(1));
            isNotSo(item.charAt(0) + " " + item.substring(1));
            isNotSo(item.charAt(0) + ";");
            faultIs(item.substring(0, item.length() - 1), 0);
            faultIs(item + item.charAt(0), item.length());
            faultIs(item + ";", item.length());
            for (int at = item.indexOf(','); at >= 0; at = item.indexOf(',', at + 1)) {
                isNotSo(item.substring(0, at) + item.substring(at + 1));
                isNotSo(item.substring(0, at) + ";" + item.substring(at + 1));
                isNotSo(item.substring(0, at) + "." + item.substring(at + 1));
                isNotSo(item.substring(0, at) + ",," + item.substring(at + 1));
                isNotSo(item.substring(0, at) + ";");
                isNotSo(item.substring(0, at) + ",;");
            }
        }
    }

    /** "numbers: one or two figures", and none but figures. */
    private static void numbersAreOfOneOrTwoFigures() {
        String[] items = {"ra,#,1;", "ra,1,#;", "k#,1,1;", "k0,#,1;", "k0,1,#;", "v#,0,1;", "v3,#,1;", "v3,0,#;", "g#;"};
        String[] wrong = {"", "003", "030", "300", "0003", "3/", "/3", "3:", ":3", "+3", "-3", "3.", "3 ", " 3", "3a", "a", "0x", "3,", "1e"};
        for (String item : items) {
            isSo(item.replace("#", "3"));
            isSo(item.replace("#", "03"));
            for (String number : wrong) {
                isNotSo(item.replace("#", number));
            }
        }
    }

    /** That numbers up to most are so, and others are not: just inside, at the bound, just outside, and with a 0 ahead. */
    private static void numbersAre(String item, int least, int most) {
        for (int number = 0; number <= 100; number++) {
            String told = item.replace("#", "" + number);
            faultIs("g1;" + told, number >= least && number <= most ? Due.NONE : 3);
        }
        isSo(item.replace("#", "" + least));
        isSo(item.replace("#", "0" + Math.min(9, most)));
        isSo(item.replace("#", "" + most));
        isNotSo(item.replace("#", "" + (most + 1)));
        isNotSo(item.replace("#", "-1"));
        if (least > 0) {
            isNotSo(item.replace("#", "" + (least - 1)));
            isNotSo(item.replace("#", "0" + (least - 1)));
        }
    }

    private static void rootHasOneToThreeLetters() {
        isNotSo("r,1,1;");
        isSo("ra,1,1;");
        isSo("rab,1,1;");
        isSo("rabc,1,1;");
        isNotSo("rabcd,1,1;");
        isNotSo("rabcde,1,1;");
    }

    private static void lettersAreAToE() {
        String[] items = {"r#,1,1;", "r#b,1,1;", "rb#,1,1;", "r#bc,1,1;", "rb#c,1,1;", "rbc#,1,1;", "w#;", "w#b;", "wb#;", "wbcdebcde#;"};
        for (String item : items) {
            for (char letter = 32; letter <= 126; letter++) {
                boolean so = letter >= 'a' && letter <= 'e';
                WallReadings x = new WallReadings();
                Scenes.put(x, "g1;" + item.replace('#', letter));
                // A , or ; in the place of a LETTER may end the row there, but what stands behind is no number then, or no ITEM.
                boolean ends = letter == ';' && (item.equals("wb#;") || item.equals("wbcdebcde#;"));
                int due = so ? Due.NONE : ends ? 3 + item.length() - 1 : 3;
                Due.is("fault of g1;" + item.replace('#', letter), x.fault(), due);
            }
        }
    }

    /** "unlike all told ahead": by its LETTERS, whatever it WEIGHS and says. */
    private static void rootIsUnlikeAllToldAhead() {
        faultIs("ra,1,1;ra,1,1;", 7);
        faultIs("ra,1,1;ra,2,0;", 7);
        faultIs("ra,0,1;ra,1,0;", 7);
        faultIs("rabc,1,1;rb,1,1;rabc,1,2;", 16);
        faultIs("rab,1,1;g1;k0,1,1;wa;v3,0,1;rab,0,2;", 28);
        faultIs("ra,1,1;raa,1,1;raaa,1,1;", Due.NONE);
        faultIs("raaa,1,1;raa,1,1;ra,1,1;", Due.NONE);
        faultIs("rab,1,1;rba,1,1;rabb,1,1;raba,1,1;rbab,1,1;", Due.NONE);
        faultIs("ree,1,1;re,1,1;reee,1,1;ree,1,1;", 24);
        String seven = "rb,1,1;rc,1,1;rd,1,1;re,1,1;raa,1,1;rab,1,1;rac,1,1;";
        faultIs("rad,1,1;" + seven, Due.NONE);
        faultIs("rac,1,1;" + seven, 8 + seven.indexOf("rac"));
        // What is laid already is not told ahead.
        WallReadings x = Due.laid("ra,1,1;k0,1,1;");
        Scenes.put(x, "ra,2,0;k0,1,1;");
        Due.is("fault of what is laid", x.fault(), Due.NONE);
        Due.is("lay of what is laid", x.lay(), 1);
        Due.is("weighs anew", x.root(0, 1), 2);
        Due.is("says anew", x.root(0, 2), 0);
    }

    private static void rootWeighsUpTo60() {
        numbersAre("ra,#,1;", 0, 60);
        numbersAre("rabc,#,0;", 1, 60);
    }

    private static void rootSaysUpTo3() {
        numbersAre("ra,1,#;", 0, 3);
        numbersAre("rabc,0,#;", 1, 3);
    }

    /** "but not 0 both". */
    private static void rootIsNotZeroBoth() {
        isNotSo("ra,0,0;");
        isNotSo("ra,00,0;");
        isNotSo("rab,0,00;");
        isNotSo("rabc,00,00;");
        isSo("ra,0,1;");
        isSo("ra,1,0;");
        isSo("ra,00,01;");
        isSo("ra,01,00;");
        isSo("ra,10,0;");
    }

    /** "8 at most, 0, 1, ..". */
    private static void eightRootsAtMost() {
        String seven = "ra,1,1;rb,1,1;rc,1,1;rd,1,1;re,1,1;raa,1,1;rab,1,1;";
        faultIs(seven, Due.NONE);
        faultIs(seven + "rac,1,1;", Due.NONE);
        faultIs(seven + "rac,1,1;g1;", Due.NONE);
        faultIs(seven + "rac,1,1;rad,1,1;", seven.length() + 8);
        faultIs(seven + "rac,1,1;g1;rad,1,1;g1;", seven.length() + 11);
        WallReadings x = Due.laid(seven + "rac,1,1;k0,1,1;");
        int[] rows = {1, 2, 3, 4, 5, 7, 8, 9, Due.BAD};
        for (int r = 0; r < 9; r++) {
            Due.is("the root " + r, x.root(r, 0), rows[r]);
        }
    }

    private static void readerIsOfKindZeroToFour() {
        numbersAre("k#,1,1;", 0, 4);
    }

    private static void readerTakesOneTo12Hours() {
        numbersAre("k0,#,1;", 1, 12);
    }

    private static void readerCostsUpTo60() {
        numbersAre("k0,1,#;", 0, 60);
    }

    /** "5 at most, 0, 1, ..": they may be alike. */
    private static void fiveReadersAtMost() {
        String four = "k0,1,1;k0,1,1;k1,2,3;k0,1,1;";
        faultIs(four, Due.NONE);
        faultIs(four + "k4,12,60;", Due.NONE);
        faultIs(four + "k4,12,60;k0,1,1;", four.length() + 9);
        faultIs(four + "k4,12,60;g1;k0,1,1;", four.length() + 12);
        WallReadings x = Due.laid(four + "k4,12,60;ra,1,1;");
        int[] kinds = {0, 0, 1, 0, 4, Due.BAD};
        for (int k = 0; k < 6; k++) {
            Due.is("the reader " + k, x.reader(k, 0), kinds[k]);
        }
    }

    private static void writingIsOfOneToNineLetters() {
        isNotSo("w;");
        isSo("wa;");
        isSo("wabcdeabc;");
        isSo("wabcdeabcd;");
        isNotSo("wabcdeabcde;");
        isNotSo("w1;");
        isNotSo("w,;");
    }

    private static void riverIs3To60Deep() {
        numbersAre("v#,0,1;", 3, 60);
    }

    private static void riverIsTurnedInHour0To24() {
        numbersAre("v3,#,1;", 0, 24);
    }

    private static void riverFallsBy1To20() {
        numbersAre("v3,0,#;", 1, 20);
    }

    private static void goldIsUpTo99() {
        numbersAre("g#;", 0, 99);
    }

    // ---- promise 5: LAID

    private static void layIsNo(String text) {
        for (Scenes.Scene scene : Scenes.Scene.values()) {
            Scenes.refuseBehind(scene, x -> {
                x.wipe();
                Scenes.put(x, text);
            }, "lay of " + text, WallReadings::lay, Due.NO);
        }
    }

    /** "of a ROOT and a READER at least (NO else". */
    private static void layNeedsARootAndAReader() {
        layIsNo("");
        layIsNo("ra,1,1;");
        layIsNo("k0,1,1;");
        layIsNo("wab;v3,0,1;g1;");
        layIsNo("ra,1,1;rb,1,1;rc,1,1;wab;g1;");
        layIsNo("k0,1,1;k1,1,1;wab;v3,0,1;");
        Due.is("lay of both", laidBy("ra,1,1;k0,1,1;"), 1);
        Due.is("lay of both, the other way round", laidBy("k0,1,1;ra,1,1;"), 1);
    }

    private static int laidBy(String text) {
        WallReadings x = new WallReadings();
        Scenes.put(x, text);
        return x.lay();
    }

    private static void layRefusesAFault() {
        layIsNo("ra,1,1;k0,1,1;z");
        layIsNo("ra,1,1;k0,1,1;g1");
        layIsNo("re,9,3;k3,1,1;wee;v9,9,9;g9;g100;");
        layIsNo("z;ra,1,1;k0,1,1;");
        layIsNo("ra,1,1;k0,1,1;ra,1,1;");
    }

    private static void layOfTheFewestAndTheMost() {
        WallReadings x = Due.laid("ra,1,0;k0,1,0;");
        Due.are("counts of the fewest", Due.counts(x), 1, 1, 0, 0, 30, 20, 12, 0, 0, 0, 0, 0, 0);
        x = Due.laid("reee,60,3;rddd,60,3;rccc,60,3;rbbb,60,3;raaa,60,3;ree,60,3;rdd,60,3;rcc,60,3;"
            + "k4,12,60;k4,12,60;k4,12,60;k4,12,60;k4,12,60;wabcdeabcd;v60,24,20;g99;");
        Due.are("counts of the most", Due.counts(x), 8, 5, 9, 0, 99, 60, 27, 0, 0, 0, 0, 0, 0);
        Due.is("the most hours", x.reader(4, 1), 12);
        Due.is("the highest price", x.reader(4, 2), 60);
        Due.is("the heaviest root", x.root(7, 1), 60);
    }

    /** "hour 0, no VERB known, the gate open, nothing SEEN, UNDONE, KEPT". */
    private static void layBeginsAnew() {
        for (Scenes.Scene scene : Scenes.Scene.values()) {
            WallReadings x = scene.make();
            x.wipe();
            Scenes.put(x, "ra,0,1;rb,1,2;k0,1,1;wab;v5,1,1;g4;");
            Due.is("lay in " + scene, x.lay(), 2);
            Due.are("counts behind lay in " + scene, Due.counts(x), 2, 1, 2, 0, 4, 5, 4, 0, 0, 0, 0, 0, 35);
            Due.is("undo behind lay in " + scene, x.undo(), Due.NO);
            Due.is("back behind lay in " + scene, x.back(), Due.NO);
            Due.is("shut behind lay in " + scene, x.shut(), Due.NO);
            Due.is("forget behind lay in " + scene, x.forget(), 0);
            Due.is("ask behind lay in " + scene, x.ask(0), 2);
            Due.is("shut behind ask in " + scene, x.shut(), 3);
        }
    }

    private static void layKeepsNothingOfWhatWasLaid() {
        WallReadings x = Due.laid("rc,9,1;ra,8,2;rab,7,3;k0,1,1;k1,2,2;k2,3,3;wcab;v60,24,1;g99;");
        Scenes.put(x, "rb,1,0;k3,4,4;");
        Due.is("lay of less", x.lay(), 1);
        Due.are("counts of less", Due.counts(x), 1, 1, 0, 0, 30, 20, 12, 0, 0, 0, 0, 0, 14);
        Due.is("root(0, 0)", x.root(0, 0), 2);
        Due.is("root(1, 0)", x.root(1, 0), Due.BAD);
        Due.is("reader(0, 0)", x.reader(0, 0), 3);
        Due.is("reader(1, 0)", x.reader(1, 0), Due.BAD);
        x.carve(0);
        Due.is("what was a root is none now", x.reader(0, 3), 0);
        x.undo();
        x.carve(1);
        Due.is("what is a root now", x.reader(0, 3), 1);
        Due.is("what it weighs now", x.tells(0, 1), 1);
        Due.is("what it says now", x.tells(0, 2), 0);
    }

    /** "THE TEXT stays". */
    private static void theTextStaysBehindLay() {
        WallReadings x = new WallReadings();
        Scenes.put(x, "ra,1,1;k0,1,1;");
        Due.is("lay", x.lay(), 1);
        Due.is("count(12)", x.count(12), 14);
        x.pass(3);
        Due.is("lay again", x.lay(), 1);
        Due.is("hours behind it", x.count(3), 0);
        Scenes.put(x, "rb,1,1;g5;");
        Due.is("roots are laid by lay alone", x.count(0), 1);
        Due.is("gold is laid by lay alone", x.count(4), 30);
        Due.is("lay of more", x.lay(), 2);
        Due.is("gold behind it", x.count(4), 5);
        Due.is("write behind it", x.write('z'), 25);
        Due.is("lay of a fault", x.lay(), Due.NO);
        Due.is("what is laid stays", x.count(0), 2);
        Due.is("wipe behind it", x.wipe(), 25);
        Due.is("what is laid stays", x.count(0), 2);
    }

    /** "none without", "20, 6, 3 without", "30 without". */
    private static void whatIsNotTold() {
        WallReadings x = Due.laid("ra,1,1;k0,1,1;v9,1,2;g1;");
        Due.are("no writing told", Due.counts(x), 1, 1, 0, 0, 1, 9, 5, 0, 0, 0, 0, 0, 0);
        x = Due.laid("ra,1,1;k0,1,1;wab;g1;");
        Due.are("no river told", Due.counts(x), 1, 1, 2, 0, 1, 20, 12, 0, 0, 0, 0, 0, 0);
        int[] depths = {20, 20, 20, 20, 20, 20, 17, 14, 11, 8, 5, 2, 0, 0};
        for (int hour = 1; hour <= depths.length; hour++) {
            Due.is("depth in hour " + hour, x.pass(1), depths[hour - 1]);
        }
        x = Due.laid("ra,1,1;k0,1,1;wab;v9,1,2;");
        Due.are("no gold told", Due.counts(x), 1, 1, 2, 0, 30, 9, 5, 0, 0, 0, 0, 0, 0);
    }

    /** "of several such the last one counts". */
    private static void theLastOneCounts() {
        WallReadings x = Due.laid("wabcdeabcd;g99;v60,24,1;ra,1,0;k0,1,1;wb;g2;v7,2,5;wa;g3;v8,1,6;");
        Due.are("counts of the last ones", Due.counts(x), 1, 1, 1, 0, 3, 8, 2, 0, 0, 0, 0, 0, 0);
        Due.is("the last writing", x.reader(0, 3), 1);
        x = Due.laid("g1;g99;v4,0,1;v60,24,1;wa;wabcdeabcd;ra,1,0;k0,1,1;");
        Due.are("counts of the last and most", Due.counts(x), 1, 1, 9, 0, 99, 60, 82, 0, 0, 0, 0, 0, 0);
        x = Due.laid("g5;g0;ra,1,0;k0,1,1;");
        Due.is("the last gold is none", x.count(4), 0);
    }

    // ---- promises 6 and 7

    private static void rootsSuchAsThereAre() {
        int[] numbers = {-1, 8, 9, MIN, MAX};
        for (int r : numbers) {
            Scenes.refuse("root(" + r + ", 0)", x -> x.root(r, 0), Due.BAD);
        }
        int[] whats = {-1, 3, 12, MIN, MAX};
        for (int what : whats) {
            Scenes.refuse("root(0, " + what + ")", x -> x.root(0, what), Due.BAD);
        }
        Scenes.refuse("root(as many, 0)", x -> x.root(x.count(0), 0), Due.BAD);
        for (int what = 0; what < 3; what++) {
            int w = what;
            Scenes.look("root(last, " + w + ")", x -> x.root(x.count(0) - 1, w));
        }
        WallReadings x = Due.laid("ra,60,0;re,0,3;raa,1,1;ree,59,2;raaa,0,1;reee,60,3;rabc,2,0;k0,1,1;");
        int[] due = {1, 60, 0, 5, 0, 3, 7, 1, 1, 35, 59, 2, 43, 0, 1, 215, 60, 3, 51, 2, 0};
        for (int n = 0; n < due.length; n++) {
            Due.is("root(" + n / 3 + ", " + n % 3 + ")", x.root(n / 3, n % 3), due[n]);
        }
        Due.is("root(7, 0) of 7", x.root(7, 0), Due.BAD);
    }

    private static void readersSuchAsThereAre() {
        int[] numbers = {-1, 5, 6, MIN, MAX};
        for (int k : numbers) {
            Scenes.refuse("reader(" + k + ", 0)", x -> x.reader(k, 0), Due.BAD);
            Scenes.refuse("reader(" + k + ", 3)", x -> x.reader(k, 3), Due.BAD);
        }
        int[] whats = {-1, 4, MIN, MAX};
        for (int what : whats) {
            Scenes.refuse("reader(0, " + what + ")", x -> x.reader(0, what), Due.BAD);
        }
        Scenes.refuse("reader(as many, 0)", x -> x.reader(x.count(1), 0), Due.BAD);
        for (int what = 0; what < 4; what++) {
            int w = what;
            Scenes.look("reader(last, " + w + ")", x -> x.reader(x.count(1) - 1, w));
        }
        WallReadings x = Due.laid("ra,1,1;k4,12,60;k3,1,0;k2,11,59;k0,2,1;wa;");
        int[] due = {4, 12, 60, 1, 3, 1, 0, 2, 2, 11, 59, 1, 0, 2, 1, 2};
        for (int n = 0; n < due.length; n++) {
            Due.is("reader(" + n / 4 + ", " + n % 4 + ")", x.reader(n / 4, n % 4), due[n]);
        }
        Due.is("reader(4, 0) of 4", x.reader(4, 0), Due.BAD);
        x.carve(0);
        Due.is("readings behind carve", x.reader(3, 3), 3);
        x.rub();
        x.rub();
        Due.is("readings of nothing", x.reader(3, 3), 0);
    }

    // ---- promises 8 and 9: READINGS and WORDS

    private static void readingsSuchAsThereAre() {
        Scenes.refuse("reading(0, -1, 0)", x -> x.reading(0, -1, 0), Due.BAD);
        Scenes.refuse("reading(0, min, 0)", x -> x.reading(0, MIN, 0), Due.BAD);
        Scenes.refuse("reading(0, max, 0)", x -> x.reading(0, MAX, 0), Due.BAD);
        Scenes.refuse("reading(0, as many, 0)", x -> x.reading(0, x.reader(0, 3), 0), Due.BAD);
        Scenes.refuse("reading(last, as many, 2)", x -> x.reading(x.count(1) - 1, x.reader(x.count(1) - 1, 3), 2), Due.BAD);
        int[] readers = {-1, 5, MIN, MAX};
        for (int k : readers) {
            Scenes.refuse("reading(" + k + ", 0, 0)", x -> x.reading(k, 0, 0), Due.BAD);
        }
        Scenes.refuse("reading(as many, 0, 0)", x -> x.reading(x.count(1), 0, 0), Due.BAD);
        int[] whats = {-1, 3, MIN, MAX};
        for (int what : whats) {
            Scenes.refuse("reading(0, 0, " + what + ")", x -> x.reading(0, 0, what), Due.BAD);
        }
        for (int what = 0; what < 3; what++) {
            int w = what;
            Scenes.look("reading(0, 0, " + w + ")", x -> x.reading(0, 0, w));
            Scenes.look("reading(0, last, " + w + ")", x -> x.reading(0, x.reader(0, 3) - 1, w));
        }
        WallReadings x = new WallReadings();
        int[] readings = {50, 6, 44, 30, 22};
        for (int k = 0; k < 5; k++) {
            Due.is("the first of reader " + k, Math.min(1, x.reading(k, 0, 0)), 1);
            Due.is("the last of reader " + k, Math.min(1, x.reading(k, readings[k] - 1, 0)), 1);
            Due.is("none behind the last of reader " + k, x.reading(k, readings[k], 0), Due.BAD);
        }
    }

    /** Of each KIND, how many READINGS: SCRIBE, COUNTER, PROPHET, CHILD, QUEEN. */
    private static void readingsAre(String roots, String writing, int... due) {
        WallReadings x = Due.laid(roots + "k0,1,1;k1,1,1;k2,1,1;k3,1,1;k4,1,1;" + (writing.isEmpty() ? "" : "w" + writing + ";"));
        for (int k = 0; k < 5; k++) {
            Due.is("readings of " + writing + " by " + roots + " for kind " + k, x.reader(k, 3), due[k]);
            Due.is("the next of " + writing + " by " + roots + " for kind " + k, x.reading(k, due[k], 0), Due.BAD);
            Due.is("tells of " + writing + " by " + roots + " for kind " + k, x.tells(k, 0) == Due.NONE, due[k] == 0);
        }
        // The same LETTERS written one by one.
        x = Due.laid(roots + "k0,1,1;k1,1,1;k2,1,1;k3,1,1;k4,1,1;");
        for (int n = 0; n < writing.length(); n++) {
            x.carve(writing.charAt(n) - 'a');
        }
        for (int k = 0; k < 5; k++) {
            Due.is("readings of " + writing + " carved, by " + roots + " for kind " + k, x.reader(k, 3), due[k]);
        }
    }

    /** "a row of WORDS, one at least": so there is none of no LETTERS. */
    private static void readingIsOfOneWordAtLeast() {
        readingsAre("ra,1,1;", "", 0, 0, 0, 0, 0);
        readingsAre("ra,1,1;", "a", 2, 1, 1, 2, 1);
        WallReadings x = Due.laid("ra,1,1;k0,1,1;k2,1,1;wa;");
        Due.is("reading(0, 0, 0) of a", x.reading(0, 0, 0), 1);
        Due.is("reading(0, 1, 0) of a", x.reading(0, 1, 0), 1);
        x.rub();
        Due.is("reading(0, 0, 0) of nothing", x.reading(0, 0, 0), Due.BAD);
        Due.is("word(0, 0, 0) of nothing", x.word(0, 0, 0), Due.BAD);
        Due.is("tells(0, 0) of nothing", x.tells(0, 0), Due.NONE);
    }

    /** "each taken as a NOUN, if it is one, or as a VERB, if it is one"; W 0: it is no NOUN; V 0: it is no VERB. */
    private static void wordIsNounOrVerb() {
        readingsAre("ra,1,0;", "a", 1, 1, 0, 1, 0);
        readingsAre("ra,60,0;", "a", 1, 1, 0, 1, 0);
        readingsAre("ra,0,1;", "a", 1, 0, 1, 1, 1);
        readingsAre("ra,0,3;", "a", 1, 0, 1, 1, 1);
        readingsAre("ra,1,3;", "a", 2, 1, 1, 2, 1);
        readingsAre("ra,1,3;", "b", 0, 0, 0, 0, 0);
        readingsAre("ra,1,3;", "ab", 0, 0, 0, 0, 0);
        readingsAre("ra,1,3;", "ba", 0, 0, 0, 0, 0);
    }

    /** "no two VERBS next to each other", be they one or two ROOTS; a NOUN between them is enough. */
    private static void noTwoVerbsNextToEachOther() {
        readingsAre("ra,0,1;", "aa", 0, 0, 0, 0, 0);
        readingsAre("ra,0,1;rb,0,2;", "ab", 0, 0, 0, 0, 0);
        readingsAre("ra,0,1;rb,1,0;", "ab", 1, 0, 1, 1, 0);
        readingsAre("ra,0,1;rb,1,0;", "ba", 1, 0, 1, 1, 1);
        readingsAre("ra,0,1;rb,1,0;", "aba", 1, 0, 1, 1, 1);
        readingsAre("ra,0,1;rb,1,0;", "abba", 1, 0, 1, 1, 1);
        readingsAre("ra,0,1;rb,1,0;", "abaa", 0, 0, 0, 0, 0);
        readingsAre("ra,0,1;rb,1,0;", "aaba", 0, 0, 0, 0, 0);
        readingsAre("ra,1,1;", "aa", 3, 1, 2, 3, 1);
        readingsAre("ra,1,1;", "aaa", 5, 1, 4, 5, 2);
        readingsAre("ra,1,1;", "aaaaaaaaa", 89, 1, 88, 89, 34);
        readingsAre("raaa,1,1;", "aaaaaaaaa", 5, 1, 4, 5, 2);
    }

    /** "A SCRIBE has all of these; a COUNTER those of NOUNS alone; a PROPHET those with a VERB". */
    private static void eachKindHasItsReadings() {
        readingsAre("ra,2,1;raa,9,0;", "aa", 4, 2, 2, 4, 1);
        readingsAre("ra,2,0;raa,0,1;", "aa", 2, 1, 1, 2, 1);
        readingsAre("ra,2,0;raa,0,1;", "aaa", 3, 1, 2, 3, 1);
        readingsAre("rabc,1,1;rab,1,0;rc,0,2;", "abc", 3, 1, 2, 0, 2);
        readingsAre("rabc,1,1;rab,1,0;rc,0,2;", "cba", 0, 0, 0, 3, 0);
    }

    private static void wordsAre(WallReadings x, int k, int i, int... due) {
        Due.is("how many words (" + k + ", " + i + ")", x.reading(k, i, 0), due.length);
        for (int j = 0; j < due.length; j++) {
            Due.is("word(" + k + ", " + i + ", " + j + ")", x.word(k, i, j), due[j]);
        }
        Due.is("word(" + k + ", " + i + ", behind)", x.word(k, i, due.length), Due.NONE);
    }

    /** "a CHILD all those of the LETTERS backwards". */
    private static void childReadsBackwards() {
        WallReadings x = Due.laid("rab,1,0;ra,1,0;rb,0,1;k0,1,1;k3,1,1;wba;");
        Due.is("the scribe's of ba", x.reader(0, 3), 1);
        wordsAre(x, 0, 0, 5, 2);
        Due.is("the child's of ab", x.reader(1, 3), 2);
        wordsAre(x, 1, 0, 0);
        wordsAre(x, 1, 1, 2, 5);
        x = Due.laid("ra,1,0;rb,0,1;rc,2,0;rd,0,2;re,3,0;k3,1,1;wabcdeabcd;");
        Due.is("two verbs, backwards too", x.reader(0, 3), 1);
        wordsAre(x, 0, 0, 7, 4, 3, 0, 8, 7, 4, 3, 0);
    }

    /** "a QUEEN those whose last WORD is a VERB". */
    private static void queenEndsWithAVerb() {
        readingsAre("ra,0,1;rb,1,0;", "a", 1, 0, 1, 1, 1);
        readingsAre("ra,0,1;rb,1,0;", "b", 1, 1, 0, 1, 0);
        readingsAre("ra,0,1;rb,1,0;", "aab", 0, 0, 0, 0, 0);
        readingsAre("ra,0,1;rb,1,0;", "bab", 1, 0, 1, 1, 0);
        readingsAre("ra,0,1;rb,1,0;", "bba", 1, 0, 1, 1, 1);
        readingsAre("rb,1,0;rba,1,2;ra,0,1;", "bba", 3, 1, 2, 1, 2);
    }

    /** "by their first WORD (a lower ROOT ahead, of one ROOT the NOUN ahead), then the second, ..". */
    private static void readingsAreNumbered() {
        WallReadings x = Due.laid("rb,1,1;rab,1,1;ra,1,1;k0,1,1;k2,1,1;k4,1,1;wab;");
        Due.is("readings of ab", x.reader(0, 3), 5);
        wordsAre(x, 0, 0, 2);
        wordsAre(x, 0, 1, 3);
        wordsAre(x, 0, 2, 4, 0);
        wordsAre(x, 0, 3, 4, 1);
        wordsAre(x, 0, 4, 5, 0);
        Due.is("a prophet's of ab", x.reader(1, 3), 3);
        wordsAre(x, 1, 0, 3);
        wordsAre(x, 1, 1, 4, 1);
        wordsAre(x, 1, 2, 5, 0);
        Due.is("a queen's of ab", x.reader(2, 3), 2);
        wordsAre(x, 2, 0, 3);
        wordsAre(x, 2, 1, 4, 1);
        x = Due.laid("ra,1,0;raa,1,1;k0,1,1;waaa;");
        wordsAre(x, 0, 0, 0, 0, 0);
        wordsAre(x, 0, 1, 0, 2);
        wordsAre(x, 0, 2, 0, 3);
        wordsAre(x, 0, 3, 2, 0);
        wordsAre(x, 0, 4, 3, 0);
        Due.is("five of aaa", x.reader(0, 3), 5);
        x = Due.laid("raaa,0,1;raa,1,0;ra,1,0;k0,1,1;waaa;");
        wordsAre(x, 0, 0, 1);
        wordsAre(x, 0, 1, 2, 4);
        wordsAre(x, 0, 2, 4, 2);
        wordsAre(x, 0, 3, 4, 4, 4);
        Due.is("four of aaa", x.reader(0, 3), 4);
    }

    /** "ROOTS, whose LETTERS one behind the other are just these": up to 9 WORDS, of up to 3 LETTERS, and none longer than what is left. */
    private static void rootsAreReadToTheLastLetter() {
        WallReadings x = Due.laid("rb,1,0;ra,1,0;k0,1,1;waaaaaaaab;");
        Due.is("one reading of nine", x.reader(0, 3), 1);
        wordsAre(x, 0, 0, 2, 2, 2, 2, 2, 2, 2, 2, 0);
        x = Due.laid("rabc,1,0;rdea,0,1;rbcd,1,0;k0,1,1;k3,1,1;wabcdeabcd;");
        Due.is("one reading of three", x.reader(0, 3), 1);
        wordsAre(x, 0, 0, 0, 3, 4);
        Due.is("none backwards", x.reader(1, 3), 0);
        Due.is("one letter less", x.rub(), 8);
        Due.is("none of eight", x.reader(0, 3), 0);
        x = Due.laid("raaa,1,0;raa,1,0;k0,1,1;wa;");
        Due.is("none of a", x.reader(0, 3), 0);
        x.carve(0);
        wordsAre(x, 0, 0, 2);
        x.carve(0);
        wordsAre(x, 0, 0, 0);
        Due.is("one of aaa", x.reader(0, 3), 1);
        x.carve(0);
        Due.is("one of aaaa", x.reader(0, 3), 1);
        wordsAre(x, 0, 0, 2, 2);
        x.carve(0);
        Due.is("two of aaaaa", x.reader(0, 3), 2);
    }

    /** "A READING WEIGHS what its NOUNS do together"; "VERBS in it (2; bits)". */
    private static void weightIsOfNounsAlone() {
        WallReadings x = Due.laid("ra,60,3;k0,1,1;waaaaaaaaa;");
        Due.is("nine nouns", x.reading(0, 0, 1), 540);
        Due.is("nine nouns, verbs", x.reading(0, 0, 2), 0);
        Due.is("five verbs, four nouns", x.reading(0, 88, 1), 240);
        Due.is("five verbs, four nouns, verbs", x.reading(0, 88, 2), 8);
        Due.is("five verbs, four nouns, words", x.reading(0, 88, 0), 9);
        x = Due.laid("ra,0,1;k0,1,1;wa;");
        Due.is("a verb alone weighs", x.reading(0, 0, 1), 0);
        Due.is("a verb alone says", x.reading(0, 0, 2), 2);
        x = Due.laid("ra,0,1;rb,0,2;rc,0,3;rd,7,0;k0,1,1;wadbdcda;");
        Due.is("all verbs", x.reading(0, 0, 2), 14);
        Due.is("what is between", x.reading(0, 0, 1), 21);
        Due.is("all verbs, words", x.reading(0, 0, 0), 7);
    }

    /** "NONE: there are not so many; BAD": BAD is the first. */
    private static void wordsSuchAsThereAre() {
        int[] none = {9, 10, 100, MAX};
        for (int j : none) {
            Scenes.refuseIn(Scenes.Scene.FRESH, "word(0, 0, " + j + ")", x -> x.word(0, 0, j), Due.NONE);
            Scenes.refuseIn(Scenes.Scene.FULL, "word(0, 0, " + j + ")", x -> x.word(0, 0, j), Due.NONE);
            Scenes.refuse("word(as many, 0, " + j + ")", x -> x.word(x.count(1), 0, j), Due.BAD);
            Scenes.refuse("word(0, as many, " + j + ")", x -> x.word(0, x.reader(0, 3), j), Due.BAD);
            Scenes.refuse("word(0, -1, " + j + ")", x -> x.word(0, -1, j), Due.BAD);
        }
        Scenes.refuseIn(Scenes.Scene.FRESH, "word(0, 0, 7)", x -> x.word(0, 0, 7), Due.NONE);
        Scenes.refuseIn(Scenes.Scene.FRESH, "word(0, 0, 6)", x -> x.word(0, 0, 6), 3);
        int[] bad = {-1, -2, MIN};
        for (int j : bad) {
            Scenes.refuse("word(0, 0, " + j + ")", x -> x.word(0, 0, j), Due.BAD);
        }
        int[] readers = {-1, 5, MIN, MAX};
        for (int k : readers) {
            Scenes.refuse("word(" + k + ", 0, 0)", x -> x.word(k, 0, 0), Due.BAD);
        }
        int[] readings = {-1, MIN, MAX};
        for (int i : readings) {
            Scenes.refuse("word(0, " + i + ", 0)", x -> x.word(0, i, 0), Due.BAD);
        }
        Scenes.look("word(0, last, 0)", x -> x.word(0, x.reader(0, 3) - 1, 0));
        WallReadings x = Due.laid("ra,1,0;rb,1,0;rc,1,0;rd,1,0;re,1,0;raa,1,0;rab,1,0;rac,0,3;k0,1,1;wac;");
        Due.is("the highest word", x.word(0, 1, 0), 15);
        Due.is("the lowest word", x.word(0, 0, 0), 0);
    }

    // ---- promise 10: what is told

    private static void tellsAre(WallReadings x, int k, int which, int weight, int verbs) {
        Due.is("tells(" + k + ", 0)", x.tells(k, 0), which);
        Due.is("tells(" + k + ", 1)", x.tells(k, 1), weight);
        Due.is("tells(" + k + ", 2)", x.tells(k, 2), verbs);
    }

    /** "none": he has no READING; "BAD" is ahead of it. */
    private static void tellsNone() {
        WallReadings x = Due.laid("ra,1,0;rb,0,1;k0,1,1;k1,1,1;k2,1,1;k3,1,1;k4,1,1;wa;");
        tellsAre(x, 0, 0, 1, 0);
        tellsAre(x, 1, 0, 1, 0);
        tellsAre(x, 2, Due.NONE, Due.NONE, Due.NONE);
        tellsAre(x, 3, 0, 1, 0);
        tellsAre(x, 4, Due.NONE, Due.NONE, Due.NONE);
        x.rub();
        x.carve(1);
        tellsAre(x, 0, 0, 0, 2);
        tellsAre(x, 1, Due.NONE, Due.NONE, Due.NONE);
        tellsAre(x, 2, 0, 0, 2);
        tellsAre(x, 3, 0, 0, 2);
        tellsAre(x, 4, 0, 0, 2);
        x.rub();
        for (int k = 0; k < 5; k++) {
            tellsAre(x, k, Due.NONE, Due.NONE, Due.NONE);
            Due.is("tells(" + k + ", 3), none", x.tells(k, 3), Due.BAD);
            Due.is("tells(" + k + ", -1), none", x.tells(k, -1), Due.BAD);
        }
        int[] readers = {-1, 5, MIN, MAX};
        for (int k : readers) {
            Scenes.refuse("tells(" + k + ", 0)", y -> y.tells(k, 0), Due.BAD);
        }
        Scenes.refuse("tells(as many, 0)", y -> y.tells(y.count(1), 0), Due.BAD);
        int[] whats = {-1, 3, MIN, MAX};
        for (int what : whats) {
            Scenes.refuse("tells(0, " + what + ")", y -> y.tells(0, what), Due.BAD);
        }
        for (int what = 0; what < 3; what++) {
            int w = what;
            Scenes.look("tells(0, " + w + ")", y -> y.tells(0, w));
            Scenes.look("tells(last, " + w + ")", y -> y.tells(y.count(1) - 1, w));
        }
    }

    /** "a COUNTER that which WEIGHS most", "of several the first". */
    private static void counterTellsTheHeaviest() {
        WallReadings x = Due.laid("ra,2,0;raa,5,0;k1,1,1;waa;");
        tellsAre(x, 0, 1, 5, 0);
        x = Due.laid("ra,2,0;raa,4,0;k1,1,1;waa;");
        tellsAre(x, 0, 0, 4, 0);
        x = Due.laid("ra,2,0;raa,3,0;k1,1,1;waa;");
        tellsAre(x, 0, 0, 4, 0);
        x = Due.laid("raa,4,0;ra,2,0;k1,1,1;waaa;");
        tellsAre(x, 0, 0, 6, 0);
        x = Due.laid("ra,1,0;raa,3,0;k1,1,1;waaa;");
        tellsAre(x, 0, 1, 4, 0);
        Due.is("the first word of a aa", x.word(0, 1, 0), 0);
        // What leads to no READING weighs nothing, be it as heavy, or heavier.
        x = Due.laid("rab,9,0;ra,1,0;rbc,1,0;rabc,9,0;k1,1,1;wabc;");
        tellsAre(x, 0, 1, 9, 0);
        x = Due.laid("rab,20,0;ra,1,0;rbc,1,0;rabc,9,0;k1,1,1;wabc;");
        tellsAre(x, 0, 1, 9, 0);
        // The last two of nine LETTERS as one ROOT or as two.
        x = Due.laid("rc,1,0;rab,1,0;ra,1,0;rb,1,0;k1,1,1;wcccccccab;");
        tellsAre(x, 0, 1, 9, 0);
        // What can also be a VERB WEIGHS as a NOUN; a heavier READING with a VERB is not his.
        x = Due.laid("ra,2,1;rab,3,0;rb,0,2;rc,50,0;rbc,1,0;k1,1,1;k0,1,1;wabc;");
        tellsAre(x, 0, 1, 53, 0);
        Due.is("the scribe's first", x.tells(1, 1), 52);
    }

    /** "a PROPHET that of most VERBS (as WORDS)", be they of one kind; "of several the first". */
    private static void prophetTellsMostVerbs() {
        WallReadings x = Due.laid("ra,1,1;k2,1,1;waaa;");
        Due.is("readings of aaa", x.reader(0, 3), 4);
        tellsAre(x, 0, 3, 1, 2);
        x.rub();
        tellsAre(x, 0, 0, 1, 2);
        x = Due.laid("rab,0,1;ra,0,2;rb,1,3;k2,1,1;wab;");
        tellsAre(x, 0, 0, 0, 2);
        // Two of one VERB are more than one; as many of two kinds are no more.
        x = Due.laid("rabc,1,2;ra,0,3;rb,1,0;rc,0,3;k2,1,1;wabc;");
        tellsAre(x, 0, 1, 1, 8);
        x = Due.laid("ra,0,1;rb,1,0;rc,0,1;rbc,0,2;rab,0,3;k2,1,1;wabc;");
        Due.is("one only of abc", x.reader(0, 3), 1);
        tellsAre(x, 0, 0, 1, 2);
        x = Due.laid("ra,0,1;rb,1,0;rbb,0,2;rc,0,1;rcb,0,3;k2,1,1;wabcb;");
        Due.is("two of abcb", x.reader(0, 3), 2);
        tellsAre(x, 0, 0, 2, 2);
        // The ninth WORD makes it more.
        x = Due.laid("rd,0,3;rc,1,0;ra,1,1;k2,1,1;wdccccccca;");
        Due.is("readings of dccccccca", x.reader(0, 3), 2);
        tellsAre(x, 0, 1, 7, 10);
        // What leads to no READING has no VERB.
        x = Due.laid("rab,0,2;ra,1,0;rbc,0,1;rabc,0,3;k2,1,1;wabc;");
        tellsAre(x, 0, 0, 1, 2);
        x = Due.laid("rab,0,2;ra,0,1;rbd,1,0;rc,0,3;rbc,1,0;rb,2,0;k2,1,1;wabc;");
        tellsAre(x, 0, 1, 2, 10);
        // Heavier is no more.
        x = Due.laid("ra,1,1;raa,60,2;k2,1,1;waaa;");
        tellsAre(x, 0, 4, 1, 2);
    }

    private static void childTellsTheLast() {
        WallReadings x = Due.laid("ra,1,1;k3,1,1;wa;");
        tellsAre(x, 0, 1, 0, 2);
        x.carve(0);
        tellsAre(x, 0, 2, 1, 2);
        x.carve(0);
        tellsAre(x, 0, 4, 1, 2);
        x = Due.laid("ra,1,0;k3,1,1;wa;");
        tellsAre(x, 0, 0, 1, 0);
        x = Due.laid("ra,1,0;rb,2,0;rba,0,3;k3,1,1;wab;");
        tellsAre(x, 0, 1, 0, 8);
    }

    private static void othersTellTheFirst() {
        WallReadings x = Due.laid("ra,1,1;raa,60,2;k0,1,1;k4,1,1;waa;");
        tellsAre(x, 0, 0, 2, 0);
        tellsAre(x, 1, 0, 1, 2);
        x = Due.laid("raa,0,2;ra,1,1;k0,1,1;k4,1,1;waa;");
        tellsAre(x, 0, 0, 0, 4);
        tellsAre(x, 1, 0, 0, 4);
    }
}
