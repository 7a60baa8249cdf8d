/** Promises 25 to 29: FORGOTTEN, WALLS, KEPT, back, count. */
public final class LotsTest {
    public static void main(String[] args) {
        forgotten();
        forgottenAlways();
        forgottenByEight();
        walls();
        wallsOneByOne();
        keep();
        back();
        backTakesAllBack();
        count();
        badArguments();
        Due.end("LotsTest");
    }

    private static void forgottenIs(WallReadings x, int k, int lost, int above, int below) {
        Due.is("forgotten(" + k + ", " + lost + ", 0)", x.forgotten(k, lost, 0), above);
        Due.is("forgotten(" + k + ", " + lost + ", 1)", x.forgotten(k, lost, 1), below);
    }

    private static void forgotten() {
        WallReadings x = Due.laid("ra,1,0;rb,1,0;rab,0,1;k0,1,1;k1,1,1;k2,1,1;k3,1,1;wab;");
        // ab must be known, or a and b: 1/2 + 1/2 1/4.
        forgottenIs(x, 0, 5, 5, 8);
        forgottenIs(x, 1, 5, 1, 4);
        forgottenIs(x, 2, 5, 1, 2);
        forgottenIs(x, 3, 5, 1, 4);
        // 9/10 + 1/10 81/100
        forgottenIs(x, 0, 1, 981, 1000);
        forgottenIs(x, 1, 3, 49, 100);
        forgottenIs(x, 2, 2, 4, 5);
        forgottenIs(x, 0, 0, 1, 1);
        forgottenIs(x, 0, 10, 0, 1);
        x.carve(4);
        forgottenIs(x, 0, 0, 0, 1);
        forgottenIs(x, 0, 5, 0, 1);
    }

    private static void forgottenAlways() {
        WallReadings x = Due.laid("ra,1,0;k0,1,1;");
        for (int lost = 0; lost <= 10; lost++) {
            forgottenIs(x, 0, lost, 0, 1);
        }
        x.carve(0);
        int[] above = {1, 9, 4, 7, 3, 1, 2, 3, 1, 1, 0};
        int[] below = {1, 10, 5, 10, 5, 2, 5, 10, 5, 10, 1};
        for (int lost = 0; lost <= 10; lost++) {
            forgottenIs(x, 0, lost, above[lost], below[lost]);
        }
    }

    private static void forgottenByEight() {
        WallReadings x = Due.laid("ra,1,0;rb,1,0;rc,1,0;rd,1,0;re,1,0;raa,1,0;rbb,1,0;rcc,1,0;k0,1,1;waabbccde;");
        // Of a and aa, b and bb, c and cc one must be known; d and e must: 99 99 99 9 9 / 10^8.
        forgottenIs(x, 0, 1, 99 * 99 * 99 * 81, 100000000);
    }

    private static void wallsAre(WallReadings x, int z, int n, int k, int read, int readings) {
        Due.is("walls(" + z + ", " + n + ", " + k + ", 0)", x.walls(z, n, k, 0), read);
        Due.is("walls(" + z + ", " + n + ", " + k + ", 1)", x.walls(z, n, k, 1), readings);
    }

    private static void walls() {
        WallReadings x = Due.laid("ra,1,1;raa,3,2;raaa,9,3;re,0,1;rea,4,0;rae,60,3;k0,1,0;k1,2,10;k2,3,20;k3,1,4;k4,12,60;");
        wallsAre(x, 0, 40, 0, 5, 13);
        wallsAre(x, 0, 40, 1, 5, 6);
        wallsAre(x, 77, 40, 4, 5, 7);
        wallsAre(x, 9999, 40, 1, 3, 3);
        // DRAW 1 for z 0, k 0: two LETTERS, aa.
        x = Due.laid("ra,1,1;k0,1,1;k4,1,1;k2,1,1;k1,1,1;waaa;");
        wallsAre(x, 0, 1, 0, 1, 3);
        wallsAre(x, 0, 1, 1, 1, 1);
        wallsAre(x, 0, 1, 2, 1, 2);
        wallsAre(x, 0, 1, 3, 1, 1);
        Due.is("the writing stays", x.count(2), 3);
    }

    /** The rows of the walls, made anew here, of which the SCRIBE has just one READING each by five ROOTS of one LETTER. */
    private static void wallsOneByOne() {
        String[] singles = {"ra,1,0;", "rb,1,0;", "rc,1,0;", "rd,1,0;", "re,1,0;"};
        WallReadings all = Due.laid(String.join("", singles) + "k0,1,1;k3,1,1;");
        int[] numbers = {0, 1, 77, 5000, 9998, 9999};
        for (int z : numbers) {
            wallsAre(all, z, 40, 0, 40, 40);
            wallsAre(all, z, 1, 1, 1, 1);
            for (int wall = 1; wall <= 40; wall += 3) {
                String row = rowOf(z, wall - 1);
                StringBuilder text = new StringBuilder("k0,1,1;");
                for (int letter = 0; letter < 5; letter++) {
                    text.append(row.indexOf('a' + letter) >= 0 ? singles[letter] : "");
                }
                WallReadings x = Due.laid(text.toString());
                int ahead = wall == 1 ? 0 : x.walls(z, wall - 1, 0, 0);
                Due.is("wall " + wall + " of " + z + ": " + row, x.walls(z, wall, 0, 0) - ahead, 1);
                x = Due.laid("r" + row.substring(0, Math.min(3, row.length())) + ",1,0;k0,1,1;");
                ahead = wall == 1 ? 0 : x.walls(z, wall - 1, 0, 1);
                Due.is("wall " + wall + " of " + z + " whole", x.walls(z, wall, 0, 1) - ahead, row.length() < 4 ? 1 : 0);
            }
        }
    }

    private static String rowOf(int z, int wall) {
        long x = 7919L * z + 6151L * wall + 1;
        long draw = x * x % 65521;
        StringBuilder row = new StringBuilder();
        long rest = draw / 4;
        for (int j = 0; j <= draw % 4; j++) {
            row.append((char) ('a' + rest % 5));
            rest /= 5;
        }
        return row.toString();
    }

    private static void keep() {
        WallReadings x = new WallReadings();
        Due.is("keep", x.keep(), 1);
        Due.is("keep", x.keep(), 2);
        Due.is("keep, full", x.keep(), Due.FULL);
        Due.is("count(11)", x.count(11), 2);
        Due.is("count(10) behind keep", x.count(10), 0);
        Due.is("back", x.back(), 1);
        Due.is("keep", x.keep(), 2);
    }

    private static void back() {
        WallReadings x = Due.laid("ra,0,1;k0,1,0;wa;");
        Due.is("back, none kept", x.back(), Due.NO);
        x.keep();
        x.pass(3);
        x.keep();
        x.pass(4);
        Due.is("back to the last", x.back(), 1);
        Due.is("hours", x.count(3), 3);
        Due.is("nothing to undo", x.count(10), 0);
        Due.is("undo", x.undo(), Due.NO);
        x.pass(5);
        Due.is("undo up to back", x.undo(), 0);
        Due.is("back to the first", x.back(), 0);
        Due.is("hours", x.count(3), 0);
        Due.is("back, no more", x.back(), Due.NO);
    }

    private static void backTakesAllBack() {
        WallReadings x = Due.laid("ra,0,1;rb,0,2;k0,1,3;wa;g10;v10,8,1;");
        x.ask(0);
        x.keep();
        int[] kept = Due.counts(x);
        x.shut();
        x.carve(1);
        x.rub();
        x.rub();
        x.carve(1);
        Due.is("ask", x.ask(0), 6);
        x.pass(24);
        x.see(0, 5);
        x.write('q');
        Due.is("back", x.back(), 0);
        kept[9] = 1;
        kept[10] = 0;
        kept[11] = 0;
        kept[12] = 1;
        Due.are("counts behind back", Due.counts(x), kept);
        Due.is("the writing behind back", x.word(0, 0, 0), 1);
        Due.is("shut behind back", x.shut(), 15);
        x.keep();
        x.undo();
        Due.is("open by undo behind keep", x.count(7), 0);
        x.back();
        Due.is("shut by back", x.count(7), 1);
    }

    private static void count() {
        WallReadings x = Due.laid("ra,0,1;rb,0,2;rc,0,3;k0,2,3;k0,1,1;wabc;g10;v10,3,2;");
        Due.are("counts", Due.counts(x), 3, 2, 3, 0, 10, 10, 7, 0, 0, 0, 0, 0, 0);
        x.rub();
        x.rub();
        x.ask(0);
        x.pass(2);
        x.see(0, 1);
        x.keep();
        x.write('g');
        Due.are("counts", Due.counts(x), 3, 2, 1, 4, 7, 8, 7, 0, 2, 1, 4, 1, 1);
        x.shut();
        x.pass(9);
        Due.are("counts, shut", Due.counts(x), 3, 2, 1, 13, 7, 0, 7, 1, 2, 1, 6, 1, 1);
        x.back();
        x.pass(3);
        Due.are("counts, fallen", Due.counts(x), 3, 2, 1, 7, 7, 2, 7, 2, 2, 1, 1, 0, 1);
        int[] bad = {-1, 13, Integer.MIN_VALUE, Integer.MAX_VALUE};
        for (int what : bad) {
            Due.is("count(" + what + ")", x.count(what), Due.BAD);
        }
    }

    private static void badArguments() {
        WallReadings x = Due.laid("ra,1,1;k0,1,1;wa;");
        int[] bad = {-1, 1, 5, Integer.MIN_VALUE, Integer.MAX_VALUE};
        for (int k : bad) {
            Due.is("forgotten(" + k + ", 1, 0)", x.forgotten(k, 1, 0), Due.BAD);
            Due.is("walls(1, 1, " + k + ", 0)", x.walls(1, 1, k, 0), Due.BAD);
        }
        int[] none = {-1, 2, Integer.MIN_VALUE, Integer.MAX_VALUE};
        for (int part : none) {
            Due.is("forgotten(0, 1, " + part + ")", x.forgotten(0, 1, part), Due.BAD);
            Due.is("walls(1, 1, 0, " + part + ")", x.walls(1, 1, 0, part), Due.BAD);
        }
        int[] lost = {-1, 11, Integer.MIN_VALUE, Integer.MAX_VALUE};
        for (int n : lost) {
            Due.is("forgotten(0, " + n + ", 0)", x.forgotten(0, n, 0), Due.BAD);
        }
        int[] numbers = {-1, 10000, Integer.MIN_VALUE, Integer.MAX_VALUE};
        for (int z : numbers) {
            Due.is("walls(" + z + ", 1, 0, 0)", x.walls(z, 1, 0, 0), Due.BAD);
        }
        int[] many = {0, 41, -1, Integer.MIN_VALUE, Integer.MAX_VALUE};
        for (int n : many) {
            Due.is("walls(0, " + n + ", 0, 0)", x.walls(0, n, 0, 0), Due.BAD);
        }
    }
}
