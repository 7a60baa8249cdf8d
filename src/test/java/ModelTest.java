/**
 * Long runs of calls, the same each time, on the program and on PlainWall, whose answers must be alike:
 * texts with and without faults, and arguments that are none too. The program must never throw.
 */
public final class ModelTest {
    private static final int RUNS = 2500, CALLS = 60;
    private static final int[] ODD = {-1, Integer.MIN_VALUE, Integer.MAX_VALUE, 5, 13, 127, 200, 601, 10000, -7};
    private static final String SIGNS = ",;0123456789abcdefrkwvg A~";

    private static long drawn;

    private static int draw(int below) {
        drawn = drawn * 6364136223846793005L + 1442695040888963407L;
        return (int) ((drawn >>> 33) % below);
    }

    /** Mostly a number from 0 up to most, now and then one that may be none. */
    private static int any(int most) {
        return draw(25) == 0 ? ODD[draw(ODD.length)] : draw(most + 1);
    }

    private static String letters(int most, int kinds) {
        StringBuilder letters = new StringBuilder();
        for (int n = 1 + draw(most); n > 0; n--) {
            letters.append((char) ('a' + draw(kinds)));
        }
        return letters.toString();
    }

    /** A TEXT that is mostly so; few kinds of LETTERS make many READINGS. */
    private static String text() {
        StringBuilder text = new StringBuilder();
        int kinds = 1 + draw(5);
        for (int r = 1 + draw(8); r > 0; r--) {
            String root = "r" + letters(3, kinds) + ",";
            int weight = draw(3) == 0 ? 0 : draw(draw(4) == 0 ? 61 : 6);
            int verb = draw(4);
            if (text.indexOf(root) < 0 && weight + verb > 0 || draw(60) == 0) {
                text.append(root).append(weight).append(',').append(verb).append(';');
            }
        }
        for (int k = draw(12) == 0 ? draw(7) : 5; k > 0; k--) {
            numbers(text, 'k', draw(5), 1 + draw(draw(3) == 0 ? 12 : 3), draw(draw(3) == 0 ? 61 : 9));
        }
        if (draw(6) > 0) {
            text.append('w').append(letters(9, kinds)).append(';');
        }
        if (draw(4) > 0) {
            numbers(text, 'v', 3 + draw(20), draw(8), 1 + draw(5));
        }
        if (draw(4) > 0) {
            numbers(text, 'g', draw(100));
        }
        return text.toString();
    }

    private static void numbers(StringBuilder text, char letter, int... numbers) {
        text.append(letter);
        for (int i = 0; i < numbers.length; i++) {
            text.append(i == 0 ? "" : ",").append(numbers[i] < 10 && draw(9) == 0 ? "0" : "").append(numbers[i]);
        }
        text.append(';');
    }

    private static String spoilt(String text) {
        StringBuilder spoilt = new StringBuilder(text);
        for (int n = 1 + draw(2); n > 0 && spoilt.length() > 0; n--) {
            int place = draw(spoilt.length());
            char sign = SIGNS.charAt(draw(SIGNS.length()));
            switch (draw(4)) {
                case 0: spoilt.deleteCharAt(place); break;
                case 1: spoilt.insert(place, sign); break;
                case 2: spoilt.setCharAt(place, sign); break;
                default: spoilt.setLength(draw(5) == 0 ? place : spoilt.length());
            }
        }
        return spoilt.toString();
    }

    private static void tell(WallReadings x, PlainWall y, String text) {
        for (int i = 0; i < text.length(); i++) {
            Due.is("write", x.write(text.charAt(i)), y.write(text.charAt(i)));
        }
        Due.is("fault of " + text, x.fault(), y.fault());
        Due.is("lay of " + text, x.lay(), y.lay());
    }

    private static void stateIsAlike(String when, WallReadings x, PlainWall y) {
        for (int what = 0; what <= 12; what++) {
            Due.is("count(" + what + ") " + when, x.count(what), y.count(what));
        }
        for (int k = 0; k < y.count(1); k++) {
            Due.is("reader(" + k + ", 3) " + when, x.reader(k, 3), y.reader(k, 3));
        }
    }

    private static void oneHour(String run, WallReadings x, PlainWall y) {
        int a = any(5);
        switch (draw(10)) {
            case 0: case 1: Due.is(run + "ask(" + a + ")", x.ask(a), y.ask(a)); break;
            case 2: Due.is(run + "shut()", x.shut(), y.shut()); break;
            case 3: case 4: Due.is(run + "carve(" + a + ")", x.carve(a), y.carve(a)); break;
            case 5: Due.is(run + "rub()", x.rub(), y.rub()); break;
            case 6: Due.is(run + "pass(" + a + ")", x.pass(a), y.pass(a)); break;
            case 7: Due.is(run + "undo()", x.undo(), y.undo()); break;
            case 8: Due.is(run + "keep()", x.keep(), y.keep()); break;
            default: Due.is(run + "back()", x.back(), y.back()); break;
        }
    }

    private static void oneLook(String run, WallReadings x, PlainWall y) {
        int k = any(4);
        int a = any(3);
        int b = any(2);
        switch (draw(6)) {
            case 0: Due.is(run + "root(" + k + ", " + a + ")", x.root(k, a), y.root(k, a)); break;
            case 1: Due.is(run + "reader(" + k + ", " + a + ")", x.reader(k, a), y.reader(k, a)); break;
            case 2: Due.is(run + "tells(" + k + ", " + b + ")", x.tells(k, b), y.tells(k, b)); break;
            case 3: Due.is(run + "count(" + a + ")", x.count(a), y.count(a)); break;
            default:
                int i = any(Math.max(0, y.reader(k, 3) - draw(2)));
                Due.is(run + "reading(" + k + ", " + i + ", " + b + ")", x.reading(k, i, b), y.reading(k, i, b));
                int j = any(9);
                Due.is(run + "word(" + k + ", " + i + ", " + j + ")", x.word(k, i, j), y.word(k, i, j));
        }
    }

    private static void oneThought(String run, WallReadings x, PlainWall y) {
        int k = any(4);
        int a = any(draw(3) == 0 ? 14 : 3);
        int b = any(1);
        switch (draw(7)) {
            case 0: Due.is(run + "belief(" + k + ", " + a + ", " + b + ")", x.belief(k, a, b), y.belief(k, a, b)); break;
            case 1: Due.is(run + "without(" + k + ")", x.without(k), y.without(k)); break;
            case 2: Due.is(run + "until(" + k + ")", x.until(k), y.until(k)); break;
            case 3: case 4:
                int verbs = draw(4) == 0 ? a : 2 * (1 + draw(7));
                int what = any(2);
                Due.is(run + "enough(" + verbs + ", " + what + ")", x.enough(verbs, what), y.enough(verbs, what));
                break;
            default:
                int lost = any(10);
                Due.is(run + "forgotten(" + k + ", " + lost + ", " + b + ")", x.forgotten(k, lost, b), y.forgotten(k, lost, b));
        }
    }

    private static void oneSight(String run, WallReadings x, PlainWall y) {
        int k = any(4);
        int a = any(4);
        switch (draw(6)) {
            case 0: case 1:
                int w = any(draw(4) == 0 ? 600 : 12);
                Due.is(run + "see(" + k + ", " + w + ")", x.see(k, w), y.see(k, w));
                break;
            case 2: Due.is(run + "forget()", x.forget(), y.forget()); break;
            case 3: Due.is(run + "wrote(" + a % 2 + ")", x.wrote(a % 2), y.wrote(a % 2)); break;
            case 4: Due.is(run + "shortest(" + k + ", " + a + ")", x.shortest(k, a), y.shortest(k, a)); break;
            default:
                int z = any(9999);
                int n = any(40);
                int what = any(1);
                Due.is(run + "walls(" + z + ", " + n + ", " + k + ", " + what + ")", x.walls(z, n, k, what), y.walls(z, n, k, what));
        }
    }

    private static void run(int number) {
        drawn = number * 7919L + 17;
        draw(2);
        WallReadings x = new WallReadings();
        PlainWall y = new PlainWall();
        String run = "run " + number + ": ";
        int before = Due.looked();
        // Behind 512 calls nothing is promised; one round makes fewer than 250.
        for (int n = 0; n < CALLS && Due.looked() - before < 260 && !Due.anyWrong(); n++) {
            if (n == 0 || draw(90) == 0) {
                Due.is(run + "wipe()", x.wipe(), y.wipe());
                tell(x, y, draw(4) == 0 ? spoilt(text()) : text());
            }
            int kind = draw(40);
            if (kind < 15) {
                oneHour(run, x, y);
            } else if (kind < 30) {
                oneLook(run, x, y);
            } else if (kind < 38) {
                oneThought(run, x, y);
            } else {
                oneSight(run, x, y);
            }
            if (draw(15) == 0) {
                stateIsAlike("in " + run, x, y);
            }
        }
    }

    /** All READINGS of a dear TEXT, word by word; a new object now and then, for one is used for 512 calls. */
    private static void allReadings() {
        String text = "raa,3,2;ra,1,1;raaa,9,3;k0,1,0;k1,2,10;k2,3,20;k3,1,4;k4,12,60;waaaaaa;";
        WallReadings x = Due.laid(text);
        PlainWall y = new PlainWall();
        tell(new WallReadings(), y, text);
        for (int k = 0; k < 5; k++) {
            for (int i = 0; i <= y.reader(k, 3); i++) {
                x = i % 15 == 0 ? Due.laid(text) : x;
                for (int n = 0; n < 10; n++) {
                    Due.is("word(" + k + ", " + i + ", " + n + ")", x.word(k, i, n), y.word(k, i, n));
                    Due.is("reading(" + k + ", " + i + ", " + n % 4 + ")", x.reading(k, i, n % 4), y.reading(k, i, n % 4));
                }
            }
        }
        x = Due.laid(text.replace("waaaaaa;", "waaaaaaaaa;"));
        Due.is("the most READINGS there can be", x.reader(0, 3), 3249);
        Due.is("word of the last of them", x.word(0, 3248, 0), 5);
        Due.is("word behind the last of them", x.word(0, 3249, 0), Due.BAD);
    }

    public static void main(String[] args) {
        stateIsAlike("of new objects", new WallReadings(), new PlainWall());
        allReadings();
        for (int number = 0; number < RUNS && !Due.anyWrong(); number++) {
            run(number);
        }
        Due.end("ModelTest");
    }
}
