import java.math.BigInteger;
import java.util.ArrayList;
import java.util.List;

/**
 * The document once more, in its plainest form, with no thought of speed: every READING is written out,
 * every answer is looked up in the lists. ModelTest compares the program with it.
 */
final class PlainWall {
    static final int BAD = -1, NO = -2, FULL = -3, NONE = -4;

    record Root(String letters, int weight, int verb) {
    }

    record Reader(int kind, int hours, int gold) {
    }

    record Word(int root, boolean verb) {
    }

    record Moment(int hour, int gold, int known, boolean shut, String writing) {
    }

    record Seen(int reader, int weight) {
    }

    private String text;
    private List<Root> roots;
    private List<Reader> readers;
    private int[] river;
    private List<Root> toldRoots;
    private List<Reader> toldReaders;
    private String toldWriting;
    private int[] toldRiver;
    private int toldGold;
    private Moment now;
    private final List<Moment> past = new ArrayList<>();
    private final List<Moment> kept = new ArrayList<>();
    private final List<Seen> seen = new ArrayList<>();

    PlainWall() {
        text = "ra,5,1;rb,0,2;rab,12,0;rba,7,3;rc,3,0;rcd,20,2;rd,1,1;rdab,40,0;k0,2,5;k1,1,3;k2,3,12;k3,1,0;k4,4,8;wabacdab;v18,4,3;g25;";
        lay();
        text = "";
    }

    int write(int letter) {
        if (letter < 32 || letter > 126) {
            return BAD;
        }
        if (text.length() == 200) {
            return FULL;
        }
        text += (char) letter;
        return text.length();
    }

    int wipe() {
        int was = text.length();
        text = "";
        return was;
    }

    /** What an ITEM of this letter looks like, as a pattern, and the numbers' bounds, in pairs. */
    private static final String[] PATTERNS = {
        "r[a-e]{1,3},\\d{1,2},\\d{1,2}", "k\\d{1,2},\\d{1,2},\\d{1,2}", "w[a-e]{1,9}", "v\\d{1,2},\\d{1,2},\\d{1,2}", "g\\d{1,2}"};
    private static final int[][] BOUNDS = {{0, 60, 0, 3}, {0, 4, 1, 12, 0, 60}, {}, {3, 60, 0, 24, 1, 20}, {0, 99}};

    private static int[] numbersOf(String item) {
        String[] parts = (item.startsWith("r") ? item.substring(item.indexOf(',') + 1) : item.substring(1)).split(",");
        int[] numbers = new int[parts.length];
        for (int i = 0; i < parts.length; i++) {
            numbers[i] = Integer.parseInt(parts[i]);
        }
        return numbers;
    }

    /** FAULT; what is told ahead of it is in the told lists then. */
    int fault() {
        toldRoots = new ArrayList<>();
        toldReaders = new ArrayList<>();
        toldWriting = "";
        toldRiver = new int[] {20, 6, 3};
        toldGold = 30;
        int place = 0;
        while (place < text.length()) {
            int end = text.indexOf(';', place);
            if (end < 0 || !take(text.substring(place, end))) {
                return place;
            }
            place = end + 1;
        }
        return NONE;
    }

    private boolean take(String item) {
        int kind = item.isEmpty() ? -1 : "rkwvg".indexOf(item.charAt(0));
        if (kind < 0 || !item.matches(PATTERNS[kind])) {
            return false;
        }
        int[] numbers = kind == 2 ? new int[0] : numbersOf(item);
        for (int i = 0; i < numbers.length; i++) {
            if (numbers[i] < BOUNDS[kind][2 * i] || numbers[i] > BOUNDS[kind][2 * i + 1]) {
                return false;
            }
        }
        if (kind == 0) {
            Root root = new Root(item.substring(1, item.indexOf(',')), numbers[0], numbers[1]);
            boolean isNew = toldRoots.stream().noneMatch(told -> told.letters.equals(root.letters));
            return isNew && root.weight + root.verb > 0 && toldRoots.add(root) && toldRoots.size() <= 8;
        }
        if (kind == 1) {
            return toldReaders.add(new Reader(numbers[0], numbers[1], numbers[2])) && toldReaders.size() <= 5;
        }
        toldWriting = kind == 2 ? item.substring(1) : toldWriting;
        toldRiver = kind == 3 ? numbers : toldRiver;
        toldGold = kind == 4 ? numbers[0] : toldGold;
        return true;
    }

    int lay() {
        if (fault() != NONE || toldRoots.isEmpty() || toldReaders.isEmpty()) {
            return NO;
        }
        roots = toldRoots;
        readers = toldReaders;
        river = toldRiver;
        now = new Moment(0, toldGold, 0, false, toldWriting);
        past.clear();
        kept.clear();
        seen.clear();
        return roots.size();
    }

    static int number(String letters) {
        int number = 0;
        for (char letter : letters.toCharArray()) {
            number = 6 * number + letter - 'a' + 1;
        }
        return number;
    }

    int root(int r, int what) {
        if (r < 0 || r >= roots.size() || what < 0 || what > 2) {
            return BAD;
        }
        Root root = roots.get(r);
        return what == 0 ? number(root.letters) : what == 1 ? root.weight : root.verb;
    }

    private boolean noReader(int k) {
        return k < 0 || k >= readers.size();
    }

    // ---- READINGS

    private void spell(String rest, List<Word> ahead, List<List<Word>> all) {
        if (rest.isEmpty()) {
            if (!ahead.isEmpty()) {
                all.add(new ArrayList<>(ahead));
            }
            return;
        }
        for (int r = 0; r < roots.size(); r++) {
            Root root = roots.get(r);
            if (!rest.startsWith(root.letters)) {
                continue;
            }
            for (int verb = 0; verb < 2; verb++) {
                boolean behindVerb = !ahead.isEmpty() && ahead.get(ahead.size() - 1).verb;
                if (verb == 0 ? root.weight == 0 : root.verb == 0 || behindVerb) {
                    continue;
                }
                ahead.add(new Word(r, verb == 1));
                spell(rest.substring(root.letters.length()), ahead, all);
                ahead.remove(ahead.size() - 1);
            }
        }
    }

    private static int verbWords(List<Word> reading) {
        return (int) reading.stream().filter(w -> w.verb).count();
    }

    private List<List<Word>> readings(int k, String letters) {
        int kind = readers.get(k).kind;
        List<List<Word>> all = new ArrayList<>();
        spell(kind == 3 ? new StringBuilder(letters).reverse().toString() : letters, new ArrayList<>(), all);
        if (kind == 1) {
            all.removeIf(reading -> verbWords(reading) > 0);
        }
        if (kind == 2) {
            all.removeIf(reading -> verbWords(reading) == 0);
        }
        if (kind == 4) {
            all.removeIf(reading -> !reading.get(reading.size() - 1).verb);
        }
        return all;
    }

    private int weight(List<Word> reading) {
        return reading.stream().filter(w -> !w.verb).mapToInt(w -> roots.get(w.root).weight).sum();
    }

    private int verbs(List<Word> reading) {
        int verbs = 0;
        for (Word word : reading) {
            verbs |= word.verb ? 1 << roots.get(word.root).verb : 0;
        }
        return verbs;
    }

    int reader(int k, int what) {
        if (noReader(k) || what < 0 || what > 3) {
            return BAD;
        }
        Reader reader = readers.get(k);
        return what == 0 ? reader.kind : what == 1 ? reader.hours : what == 2 ? reader.gold : readings(k, now.writing).size();
    }

    int reading(int k, int i, int what) {
        if (noReader(k) || what < 0 || what > 2 || i < 0 || i >= readings(k, now.writing).size()) {
            return BAD;
        }
        List<Word> reading = readings(k, now.writing).get(i);
        return what == 0 ? reading.size() : what == 1 ? weight(reading) : verbs(reading);
    }

    int word(int k, int i, int j) {
        if (noReader(k) || j < 0 || i < 0 || i >= readings(k, now.writing).size()) {
            return BAD;
        }
        List<Word> reading = readings(k, now.writing).get(i);
        return j >= reading.size() ? NONE : 2 * reading.get(j).root + (reading.get(j).verb ? 1 : 0);
    }

    private int told(int k, List<List<Word>> readings) {
        int kind = readers.get(k).kind;
        int told = kind == 3 ? readings.size() - 1 : 0;
        for (int i = 0; i < readings.size(); i++) {
            boolean better = kind == 1 && weight(readings.get(i)) > weight(readings.get(told))
                || kind == 2 && verbWords(readings.get(i)) > verbWords(readings.get(told));
            told = better ? i : told;
        }
        return told;
    }

    int tells(int k, int what) {
        if (noReader(k) || what < 0 || what > 2) {
            return BAD;
        }
        List<List<Word>> readings = readings(k, now.writing);
        if (readings.isEmpty()) {
            return NONE;
        }
        int told = told(k, readings);
        return what == 0 ? told : what == 1 ? weight(readings.get(told)) : verbs(readings.get(told));
    }

    // ---- hours

    private int depth(int hour) {
        int depth = river[0];
        for (int h = river[1]; h < hour; h++) {
            depth -= river[2];
        }
        return Math.max(0, depth);
    }

    private int fall() {
        int hour = 0;
        while (depth(hour) > 2) {
            hour++;
        }
        return hour;
    }

    private boolean fallen() {
        return !now.shut && now.hour >= fall();
    }

    private void next(Moment moment) {
        past.add(now);
        if (past.size() > 8) {
            past.remove(0);
        }
        now = moment;
    }

    int ask(int k) {
        if (noReader(k)) {
            return BAD;
        }
        Reader reader = readers.get(k);
        if (reader.gold > now.gold) {
            return NO;
        }
        int verbs = tells(k, 0) == NONE ? 0 : tells(k, 2);
        next(new Moment(now.hour + reader.hours, now.gold - reader.gold, now.known | verbs, now.shut, now.writing));
        return now.known;
    }

    int shut() {
        if ((now.known & 2) == 0 || now.shut || fallen()) {
            return NO;
        }
        next(new Moment(now.hour, now.gold, now.known, true, now.writing));
        return fall() - now.hour;
    }

    int carve(int letter) {
        if (letter < 0 || letter > 4) {
            return BAD;
        }
        if (now.writing.length() == 9) {
            return FULL;
        }
        next(new Moment(now.hour, now.gold, now.known, now.shut, now.writing + (char) ('a' + letter)));
        return now.writing.length();
    }

    int rub() {
        if (now.writing.isEmpty()) {
            return NO;
        }
        next(new Moment(now.hour, now.gold, now.known, now.shut, now.writing.substring(0, now.writing.length() - 1)));
        return now.writing.length();
    }

    int pass(int n) {
        if (n < 1 || n > 24) {
            return BAD;
        }
        next(new Moment(now.hour + n, now.gold, now.known, now.shut, now.writing));
        return depth(now.hour);
    }

    int undo() {
        if (past.isEmpty()) {
            return NO;
        }
        now = past.remove(past.size() - 1);
        return past.size();
    }

    // ---- what it may be

    private static int lowest(BigInteger above, BigInteger below, int part) {
        BigInteger shared = above.gcd(below);
        return (part == 0 ? above : below).divide(shared).intValueExact();
    }

    int belief(int k, int v, int part) {
        if (noReader(k) || v < 1 || v > 3 || part < 0 || part > 1) {
            return BAD;
        }
        List<List<Word>> readings = readings(k, now.writing);
        if (readings.isEmpty()) {
            return part;
        }
        long with = readings.stream().filter(reading -> (verbs(reading) & 1 << v) != 0).count();
        return lowest(BigInteger.valueOf(with), BigInteger.valueOf(readings.size()), part);
    }

    private static int rootsIn(List<Word> reading) {
        int set = 0;
        for (Word word : reading) {
            set |= 1 << word.root;
        }
        return set;
    }

    int without(int k) {
        if (noReader(k)) {
            return BAD;
        }
        List<List<Word>> readings = readings(k, now.writing);
        if (readings.isEmpty()) {
            return NONE;
        }
        int needed = 255;
        for (List<Word> reading : readings) {
            needed &= rootsIn(reading);
        }
        return needed;
    }

    static List<String> shortRows() {
        List<String> rows = new ArrayList<>();
        List<String> last = List.of("");
        for (int letters = 1; letters <= 4; letters++) {
            List<String> longer = new ArrayList<>();
            for (String row : last) {
                for (char letter = 'a'; letter <= 'e'; letter++) {
                    longer.add(row + letter);
                }
            }
            rows.addAll(longer);
            last = longer;
        }
        return rows;
    }

    int shortest(int k, int j) {
        if (noReader(k) || noReader(j)) {
            return BAD;
        }
        for (String row : shortRows()) {
            if (!readings(k, row).isEmpty() && readings(j, row).isEmpty()) {
                return number(row);
            }
        }
        return NONE;
    }

    int until(int k) {
        if (noReader(k)) {
            return BAD;
        }
        if (tells(k, 0) == NONE || (tells(k, 2) & 2) == 0) {
            return NONE;
        }
        for (int hour = fall(); hour >= now.hour; hour--) {
            if (hour + readers.get(k).hours < fall()) {
                return hour;
            }
        }
        return NONE;
    }

    int enough(int verbs, int what) {
        if (verbs <= 0 || verbs > 14 || verbs % 2 == 1 || what < 0 || what > 2) {
            return BAD;
        }
        int[] best = null;
        for (int set = 0; set < 1 << readers.size(); set++) {
            int gold = 0;
            int hours = 0;
            int known = now.known;
            for (int k = 0; k < readers.size(); k++) {
                if ((set & 1 << k) != 0) {
                    gold += readers.get(k).gold;
                    hours += readers.get(k).hours;
                    known |= tells(k, 0) == NONE ? 0 : tells(k, 2);
                }
            }
            if (gold > now.gold || now.hour + hours >= fall() || (known & verbs) != verbs) {
                continue;
            }
            if (best == null || gold < best[1] || gold == best[1] && hours < best[2]) {
                best = new int[] {set, gold, hours};
            }
        }
        return best == null ? NONE : best[what];
    }

    // ---- what was seen

    int see(int k, int w) {
        if (noReader(k) || w < 0 || w > 600) {
            return BAD;
        }
        if (seen.size() == 6) {
            return FULL;
        }
        seen.add(new Seen(k, w));
        return seen.size();
    }

    int forget() {
        int were = seen.size();
        seen.clear();
        return were;
    }

    private boolean isSeen(String row, Seen one) {
        List<List<Word>> readings = readings(one.reader, row);
        return !readings.isEmpty() && weight(readings.get(told(one.reader, readings))) == one.weight;
    }

    int wrote(int what) {
        if (what < 0 || what > 1) {
            return BAD;
        }
        List<String> rows = shortRows();
        rows.removeIf(row -> !seen.stream().allMatch(one -> isSeen(row, one)));
        if (what == 0) {
            return rows.size();
        }
        return rows.isEmpty() ? NONE : number(rows.get(0));
    }

    // ---- forgotten ones, walls

    int forgotten(int k, int x, int part) {
        if (noReader(k) || x < 0 || x > 10 || part < 0 || part > 1) {
            return BAD;
        }
        List<List<Word>> readings = readings(k, now.writing);
        BigInteger above = BigInteger.ZERO;
        for (int known = 0; known < 1 << roots.size(); known++) {
            int set = known;
            if (readings.stream().noneMatch(reading -> (rootsIn(reading) & ~set) == 0)) {
                continue;
            }
            BigInteger chance = BigInteger.ONE;
            for (int r = 0; r < roots.size(); r++) {
                chance = chance.multiply(BigInteger.valueOf((known & 1 << r) != 0 ? 10 - x : x));
            }
            above = above.add(chance);
        }
        return lowest(above, BigInteger.TEN.pow(roots.size()), part);
    }

    int walls(int z, int n, int k, int what) {
        if (z < 0 || z > 9999 || n < 1 || n > 40 || noReader(k) || what < 0 || what > 1) {
            return BAD;
        }
        int read = 0;
        int all = 0;
        for (int wall = 0; wall < n; wall++) {
            BigInteger x = BigInteger.valueOf(7919).multiply(BigInteger.valueOf(z)).add(BigInteger.valueOf(6151L * wall + 1));
            int draw = x.multiply(x).mod(BigInteger.valueOf(65521)).intValue();
            String row = "";
            for (int j = 0; j < 1 + draw % 4; j++) {
                int number = draw / 4;
                for (int cut = 0; cut < j; cut++) {
                    number /= 5;
                }
                row += (char) ('a' + number % 5);
            }
            int readings = readings(k, row).size();
            read += readings > 0 ? 1 : 0;
            all += readings;
        }
        return what == 0 ? read : all;
    }

    int keep() {
        if (kept.size() == 2) {
            return FULL;
        }
        kept.add(now);
        return kept.size();
    }

    int back() {
        if (kept.isEmpty()) {
            return NO;
        }
        now = kept.remove(kept.size() - 1);
        past.clear();
        return kept.size();
    }

    int count(int what) {
        int[] counts = {
            roots.size(), readers.size(), now.writing.length(), now.hour, now.gold, depth(now.hour), fall(),
            now.shut ? 1 : fallen() ? 2 : 0, now.known, seen.size(), past.size(), kept.size(), text.length()};
        return what < 0 || what > 12 ? BAD : counts[what];
    }
}
