/** Promises 11 to 16: READERS ASKED, the gate shut, LETTERS written and rubbed off, hours that go by, UNDONE. */
public final class HoursTest {
    public static void main(String[] args) {
        ask();
        askBehindTheFall();
        shut();
        shutAtTheEdge();
        carve();
        rub();
        pass();
        undo();
        undoOfEach();
        whatCantBeUndone();
        Due.end("HoursTest");
    }

    private static void ask() {
        WallReadings x = Due.laid("ra,0,1;rb,1,2;rc,1,0;k0,2,5;k4,12,6;k1,3,0;wbc;g10;");
        Due.is("ask(-1)", x.ask(-1), Due.BAD);
        Due.is("ask(3)", x.ask(3), Due.BAD);
        Due.is("ask(min)", x.ask(Integer.MIN_VALUE), Due.BAD);
        Due.is("ask(max)", x.ask(Integer.MAX_VALUE), Due.BAD);
        Due.is("ask(1), who has none", x.ask(1), 0);
        Due.are("counts behind it", Due.counts(x), 3, 3, 2, 12, 4, 2, 12, 2, 0, 0, 1, 0, 0);
        Due.is("ask(0), not the gold", x.ask(0), Due.NO);
        Due.is("ask(5), not the gold", x.ask(5), Due.BAD);
        Due.is("count(3) behind NO", x.count(3), 12);
        Due.is("count(10) behind NO", x.count(10), 1);
        Due.is("ask(2), for nothing", x.ask(2), 0);
        Due.is("count(3)", x.count(3), 15);
        x = Due.laid("ra,0,1;rb,1,2;k0,2,5;k4,12,5;wba;g10;");
        Due.is("ask(0)", x.ask(0), 2);
        x.rub();
        Due.is("ask(1)", x.ask(1), 6);
        Due.is("count(4), all paid", x.count(4), 0);
        Due.is("count(8)", x.count(8), 6);
        Due.is("ask(0), no gold at all", x.ask(0), Due.NO);
    }

    private static void askBehindTheFall() {
        WallReadings x = Due.laid("ra,0,1;k0,1,1;wa;v3,0,1;");
        Due.is("ask(0)", x.ask(0), 2);
        Due.is("fallen", x.count(7), 2);
        Due.is("ask(0), fallen", x.ask(0), 2);
        Due.is("shut, fallen", x.shut(), Due.NO);
    }

    private static void shut() {
        WallReadings x = Due.laid("ra,0,1;rb,0,2;k0,2,0;wb;v20,6,3;");
        Due.is("shut, nothing known", x.shut(), Due.NO);
        Due.is("ask", x.ask(0), 4);
        Due.is("shut, END not known", x.shut(), Due.NO);
        x.rub();
        x.carve(0);
        Due.is("ask", x.ask(0), 6);
        Due.is("open", x.count(7), 0);
        Due.is("shut", x.shut(), 12 - 4);
        Due.is("is shut", x.count(7), 1);
        Due.is("shut again", x.shut(), Due.NO);
        Due.is("pass", x.pass(24), 0);
        Due.is("shut, so not fallen", x.count(7), 1);
        Due.is("shut behind FALL", x.shut(), Due.NO);
        Due.is("can be undone", x.count(10), 6);
        Due.is("undo the hours", x.undo(), 5);
        Due.is("undo the gate", x.undo(), 4);
        Due.is("open again", x.count(7), 0);
        Due.is("hours behind undo", x.count(3), 4);
        Due.is("pass up to FALL", x.pass(8), 2);
        Due.is("fallen", x.count(7), 2);
        Due.is("shut, fallen", x.shut(), Due.NO);
    }

    private static void shutAtTheEdge() {
        WallReadings x = Due.laid("ra,0,1;k0,3,0;wa;v9,1,2;");
        Due.is("FALL", x.count(6), 5);
        x.ask(0);
        x.pass(1);
        Due.is("not fallen an hour ahead", x.count(7), 0);
        Due.is("shut an hour ahead", x.shut(), 1);
    }

    private static void carve() {
        WallReadings x = Due.laid("ra,1,0;re,1,0;k0,1,1;");
        Due.is("carve(-1)", x.carve(-1), Due.BAD);
        Due.is("carve(5)", x.carve(5), Due.BAD);
        Due.is("carve('a')", x.carve('a'), Due.BAD);
        Due.is("carve(max)", x.carve(Integer.MAX_VALUE), Due.BAD);
        Due.is("carve(0)", x.carve(0), 1);
        Due.is("word(0, 0, 0)", x.word(0, 0, 0), 0);
        for (int n = 2; n <= 9; n++) {
            Due.is("carve(4), the " + n + "th", x.carve(4), n);
            Due.is("word(0, 0, " + (n - 1) + ")", x.word(0, 0, n - 1), 2);
        }
        Due.is("carve(4), full", x.carve(4), Due.FULL);
        Due.is("carve(5), full", x.carve(5), Due.BAD);
        Due.is("count(2), full", x.count(2), 9);
        Due.is("count(10), full", x.count(10), 8);
        x = Due.laid("ra,1,0;rb,1,0;rc,1,0;k0,1,1;");
        x.carve(1);
        x.carve(2);
        x.carve(0);
        Due.are("words behind b c a", new int[] {x.word(0, 0, 0), x.word(0, 0, 1), x.word(0, 0, 2)}, 2, 4, 0);
    }

    private static void rub() {
        WallReadings x = Due.laid("ra,1,0;rb,1,0;k0,1,1;waba;");
        Due.is("rub", x.rub(), 2);
        Due.is("what is left", x.word(0, 0, 1), 2);
        Due.is("rub", x.rub(), 1);
        Due.is("what is left", x.word(0, 0, 0), 0);
        Due.is("rub", x.rub(), 0);
        Due.is("readings of nothing", x.reader(0, 3), 0);
        Due.is("rub, none", x.rub(), Due.NO);
        Due.is("can be undone", x.count(10), 3);
    }

    private static void pass() {
        WallReadings x = Due.laid("ra,1,0;k0,1,1;v20,6,3;");
        int[] bad = {0, 25, -1, Integer.MIN_VALUE, Integer.MAX_VALUE};
        for (int n : bad) {
            Due.is("pass(" + n + ")", x.pass(n), Due.BAD);
        }
        Due.is("hours behind BAD", x.count(3), 0);
        Due.is("pass(6), up to T", x.pass(6), 20);
        Due.is("pass(1)", x.pass(1), 17);
        Due.is("pass(4)", x.pass(4), 5);
        Due.is("count(7) ahead of FALL", x.count(7), 0);
        Due.is("pass(1), 2 deep", x.pass(1), 2);
        Due.is("count(7) in FALL", x.count(7), 2);
        Due.is("pass(1), dry", x.pass(1), 0);
        Due.is("pass(24)", x.pass(24), 0);
        Due.is("count(3)", x.count(3), 37);
        Due.is("count(5)", x.count(5), 0);
    }

    /** Nine LETTERS go by one by one: the last 8 can be undone. */
    private static void undo() {
        WallReadings x = Due.laid("ra,1,0;k0,1,1;");
        Due.is("undo, nothing", x.undo(), Due.NO);
        for (int n = 1; n <= 9; n++) {
            x.carve(n % 5);
            Due.is("count(10) behind " + n, x.count(10), Math.min(n, 8));
        }
        for (int n = 7; n >= 0; n--) {
            Due.is("undo", x.undo(), n);
            Due.is("letters", x.count(2), n + 1);
        }
        Due.is("undo, no more", x.undo(), Due.NO);
        Due.is("letters left", x.count(2), 1);
        x.pass(5);
        x.pass(7);
        Due.is("undo of 7 hours at one time", x.undo(), 1);
        Due.is("hours left", x.count(3), 5);
        x.pass(1);
        Due.is("undo of 1 hour", x.undo(), 1);
        Due.is("hours left", x.count(3), 5);
        Due.is("undo of 5 hours", x.undo(), 0);
        Due.is("hours left", x.count(3), 0);
    }

    private static void undoOfEach() {
        WallReadings x = Due.laid("ra,0,1;rb,1,0;k0,2,7;wa;g20;v30,24,1;");
        int[][] before = new int[5][];
        before[0] = Due.counts(x);
        x.ask(0);
        before[1] = Due.counts(x);
        x.shut();
        before[2] = Due.counts(x);
        x.carve(1);
        before[3] = Due.counts(x);
        x.rub();
        before[4] = Due.counts(x);
        x.pass(24);
        for (int n = 4; n >= 0; n--) {
            Due.is("undo", x.undo(), n);
            Due.are("counts behind undo, " + n, Due.counts(x), before[n]);
        }
        x.rub();
        x.carve(1);
        x.undo();
        x.undo();
        Due.is("the writing behind undo", x.word(0, 0, 0), 1);
    }

    /** What is NO, BAD or FULL, seen, kept, told or asked for is nothing that can be undone. */
    private static void whatCantBeUndone() {
        WallReadings x = Due.laid("ra,0,1;k0,2,60;waaaaaaaaa;g20;");
        x.ask(0);
        x.ask(1);
        x.shut();
        x.carve(0);
        x.carve(5);
        x.pass(0);
        x.see(0, 1);
        x.forget();
        x.keep();
        x.write('a');
        x.wipe();
        x.wrote(0);
        Due.is("count(10)", x.count(10), 0);
        Due.is("undo", x.undo(), Due.NO);
        x.pass(1);
        x.see(0, 1);
        x.keep();
        x.write('a');
        Due.is("undo", x.undo(), 0);
        Due.are("counts behind undo", Due.counts(x), 1, 1, 9, 0, 20, 20, 12, 0, 0, 1, 0, 2, 1);
    }
}
