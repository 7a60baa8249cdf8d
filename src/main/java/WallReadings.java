/**
 * The feast, the wall and those who read it, as ../shared/DOC.md tells them.
 * A row of LETTERS is held as the document's number of it: to the base of 6, the first LETTER highest, 0 for none.
 */
public final class WallReadings {
    public static final int BAD = -1, NO = -2, FULL = -3, NONE = -4;

    private static final String FIRST_TEXT = "ra,5,1;rb,0,2;rab,12,0;rba,7,3;rc,3,0;rcd,20,2;rd,1,1;rdab,40,0;k0,2,5;k1,1,3;k2,3,12;k3,1,0;k4,4,8;wabacdab;v18,4,3;g25;";
    private static final int MOST_SIGNS = 200, MOST_ROOTS = 8, MOST_READERS = 5, MOST_LETTERS = 9, MOST_SEEN = 6;
    private static final int MOST_UNDONE = 8, MOST_KEPT = 2;
    private static final int ROOT_LETTERS = 3, ROOT_ROWS = 216, BASE = 6, LETTERS = 5;
    // What is looked for among all rows goes up to 4 LETTERS: the last of them is eeee.
    private static final int SHORT_ROW = 4, LAST_SHORT_ROW = 1295;
    private static final int COUNTER = 1, PROPHET = 2, CHILD = 3, QUEEN = 4;
    private static final int END = 1, LAST_VERB = 3, ALL_VERBS = 14;
    private static final int ALL_WORDS = 0xFFFF, NOUN_WORDS = 0x5555, MOST_WORDS = 16;
    // The places of what can be undone and kept, in a row of numbers.
    private static final int HOUR = 0, GOLD = 1, KNOWN = 2, GATE = 3, WRITING = 4, MOMENT = 5;

    private final Text text;
    private final World laid;
    private final World draft;
    private final Grammar grammar;
    private final int[] now = new int[MOMENT];
    private final Shelf past = new Shelf();
    private final Shelf kept = new Shelf();
    private final int[] seenReader = new int[MOST_SEEN];
    private final int[] seenWeight = new int[MOST_SEEN];
    private final int[] toldVerbs = new int[MOST_READERS];
    private int seen;

    public WallReadings() {
        text = new Text();
        laid = new World();
        draft = new World();
        grammar = new Grammar(laid);
        for (int i = 0; i < FIRST_TEXT.length(); i++) {
            text.add(FIRST_TEXT.charAt(i));
        }
        text.firstFault(laid);
        text.clear();
        begin();
    }

    // ---- walls

    public int write(int letter) {
        if (letter < 32 || letter > 126) {
            return BAD;
        }
        return text.add((char) letter) ? text.length : FULL;
    }

    public int wipe() {
        int was = text.length;
        text.clear();
        return was;
    }

    public int fault() {
        return text.firstFault(draft);
    }

    public int lay() {
        if (text.firstFault(draft) != NONE || draft.roots == 0 || draft.readers == 0) {
            return NO;
        }
        text.firstFault(laid);
        begin();
        return laid.roots;
    }

    public int root(int r, int what) {
        if (r < 0 || r >= laid.roots || what < 0 || what > 2) {
            return BAD;
        }
        if (what == 0) {
            return laid.rootRow[r];
        }
        return what == 1 ? laid.rootWeight[r] : laid.rootVerb[r];
    }

    public int reader(int k, int what) {
        if (!isReader(k) || what < 0 || what > 3) {
            return BAD;
        }
        if (what == 3) {
            return readingsOf(k, now[WRITING]);
        }
        if (what == 0) {
            return laid.readerKind[k];
        }
        return what == 1 ? laid.readerHours[k] : laid.readerPrice[k];
    }

    public int reading(int k, int i, int what) {
        if (!isReader(k) || what < 0 || what > 2 || !isReading(k, i)) {
            return BAD;
        }
        grammar.pick(i);
        if (what == 0) {
            return grammar.size;
        }
        return what == 1 ? grammar.weight : grammar.verbs;
    }

    public int word(int k, int i, int j) {
        if (!isReader(k) || j < 0 || !isReading(k, i)) {
            return BAD;
        }
        grammar.pick(i);
        return j < grammar.size && j < MOST_LETTERS ? grammar.words[j] : NONE;
    }

    public int tells(int k, int what) {
        if (!isReader(k) || what < 0 || what > 2) {
            return BAD;
        }
        int told = toldBy(k, now[WRITING]);
        if (told == NONE || what == 0) {
            return told;
        }
        return what == 1 ? grammar.weight : grammar.verbs;
    }

    // ---- hours

    public int ask(int k) {
        if (!isReader(k)) {
            return BAD;
        }
        if (now[GOLD] < laid.readerPrice[k]) {
            return NO;
        }
        past.put(now);
        now[GOLD] -= laid.readerPrice[k];
        now[HOUR] += laid.readerHours[k];
        now[KNOWN] |= verbsToldBy(k);
        return now[KNOWN];
    }

    public int shut() {
        if (!holds(now[KNOWN], END) || now[GATE] == 1 || hasFallen()) {
            return NO;
        }
        past.put(now);
        now[GATE] = 1;
        return laid.fall() - now[HOUR];
    }

    public int carve(int letter) {
        if (letter < 0 || letter >= LETTERS) {
            return BAD;
        }
        if (lettersIn(now[WRITING]) >= MOST_LETTERS) {
            return FULL;
        }
        past.put(now);
        now[WRITING] = now[WRITING] * BASE + letter + 1;
        return lettersIn(now[WRITING]);
    }

    public int rub() {
        if (now[WRITING] == 0) {
            return NO;
        }
        past.put(now);
        now[WRITING] /= BASE;
        return lettersIn(now[WRITING]);
    }

    public int pass(int n) {
        if (n < 1 || n > 24) {
            return BAD;
        }
        past.put(now);
        now[HOUR] += n;
        return laid.depthIn(now[HOUR]);
    }

    public int undo() {
        if (past.held == 0) {
            return NO;
        }
        past.takeInto(now);
        return past.held;
    }

    // ---- what it may be

    public int belief(int k, int v, int part) {
        if (!isReader(k) || v < 1 || v > LAST_VERB || !isPart(part)) {
            return BAD;
        }
        int all = readingsOf(k, now[WRITING]);
        int others = grammar.tally(ALL_WORDS & ~laid.wordsSaying(v));
        return inLowestTerms(all - others, all, part);
    }

    public int without(int k) {
        if (!isReader(k)) {
            return BAD;
        }
        if (readingsOf(k, now[WRITING]) == 0) {
            return NONE;
        }
        int needed = 0;
        for (int r = 0; r < laid.roots; r++) {
            if (grammar.tally(ALL_WORDS & ~wordsOfRoot(r)) == 0) {
                needed |= 1 << r;
            }
        }
        return needed;
    }

    public int shortest(int k, int j) {
        if (!isReader(k) || !isReader(j)) {
            return BAD;
        }
        for (int row = 1; row <= LAST_SHORT_ROW; row++) {
            if (isShortRow(row) && readingsOf(k, row) > 0 && readingsOf(j, row) == 0) {
                return row;
            }
        }
        return NONE;
    }

    public int until(int k) {
        if (!isReader(k)) {
            return BAD;
        }
        int latest = laid.fall() - 1 - laid.readerHours[k];
        return holds(verbsToldBy(k), END) && latest >= now[HOUR] ? latest : NONE;
    }

    public int enough(int verbs, int what) {
        if (verbs == 0 || (verbs & ~ALL_VERBS) != 0 || what < 0 || what > 2) {
            return BAD;
        }
        for (int k = 0; k < laid.readers; k++) {
            toldVerbs[k] = verbsToldBy(k);
        }
        int best = NONE;
        for (int set = 0; set < 1 << laid.readers; set++) {
            if (isEnough(set, verbs) && (best == NONE || isCheaper(set, best))) {
                best = set;
            }
        }
        if (best == NONE || what == 0) {
            return best;
        }
        return what == 1 ? laid.priceOf(best) : laid.hoursOf(best);
    }

    // ---- what was seen

    public int see(int k, int w) {
        if (!isReader(k) || w < 0 || w > 600) {
            return BAD;
        }
        if (seen >= MOST_SEEN) {
            return FULL;
        }
        seenReader[seen] = k;
        seenWeight[seen] = w;
        seen++;
        return seen;
    }

    public int forget() {
        int were = seen;
        seen = 0;
        return were;
    }

    public int wrote(int what) {
        if (what < 0 || what > 1) {
            return BAD;
        }
        int rows = 0;
        for (int row = 1; row <= LAST_SHORT_ROW; row++) {
            if (isShortRow(row) && isAsSeen(row)) {
                if (what == 1) {
                    return row;
                }
                rows++;
            }
        }
        return what == 1 ? NONE : rows;
    }

    // ---- forgotten ones, walls

    public int forgotten(int k, int x, int part) {
        if (!isReader(k) || x < 0 || x > 10 || !isPart(part)) {
            return BAD;
        }
        grammar.take(laid.readerKind[k], now[WRITING]);
        long above = 0;
        for (int known = 0; known < 1 << laid.roots; known++) {
            if (grammar.tally(wordsOfRoots(known)) > 0) {
                above += oddsOf(known, x);
            }
        }
        return inLowestTerms(above, power(10, laid.roots), part);
    }

    public int walls(int z, int n, int k, int what) {
        if (z < 0 || z > 9999 || n < 1 || n > 40 || !isReader(k) || what < 0 || what > 1) {
            return BAD;
        }
        int read = 0;
        int readings = 0;
        for (int wall = 0; wall < n; wall++) {
            int found = readingsOf(k, rowOfWall(z, wall));
            read += found > 0 ? 1 : 0;
            readings += found;
        }
        return what == 0 ? read : readings;
    }

    public int keep() {
        if (kept.held >= MOST_KEPT) {
            return FULL;
        }
        kept.put(now);
        return kept.held;
    }

    public int back() {
        if (kept.held == 0) {
            return NO;
        }
        kept.takeInto(now);
        past.held = 0;
        return kept.held;
    }

    public int count(int what) {
        switch (what) {
            case 0: return laid.roots;
            case 1: return laid.readers;
            case 2: return lettersIn(now[WRITING]);
            case 3: return now[HOUR];
            case 4: return now[GOLD];
            case 5: return laid.depthIn(now[HOUR]);
            case 6: return laid.fall();
            case 7: return hasFallen() ? 2 : now[GATE];
            case 8: return now[KNOWN];
            case 9: return seen;
            case 10: return past.held;
            case 11: return kept.held;
            case 12: return text.length;
            default: return BAD;
        }
    }

    // ---- how things stand

    private void begin() {
        now[HOUR] = 0;
        now[GOLD] = laid.gold;
        now[KNOWN] = 0;
        now[GATE] = 0;
        now[WRITING] = laid.writing;
        past.held = 0;
        kept.held = 0;
        seen = 0;
    }

    private boolean hasFallen() {
        return now[GATE] == 0 && now[HOUR] >= laid.fall();
    }

    private boolean isReader(int k) {
        return k >= 0 && k < laid.readers;
    }

    private static boolean isPart(int part) {
        return part == 0 || part == 1;
    }

    private boolean isReading(int k, int i) {
        return i >= 0 && i < readingsOf(k, now[WRITING]);
    }

    // ---- what readers have and tell

    private int readingsOf(int k, int row) {
        grammar.take(laid.readerKind[k], row);
        return grammar.tally(ALL_WORDS);
    }

    /** Which READING is told; it stands picked in the grammar then. */
    private int toldBy(int k, int row) {
        if (readingsOf(k, row) == 0) {
            return NONE;
        }
        int told = grammar.told();
        grammar.pick(told);
        return told;
    }

    private int verbsToldBy(int k) {
        return toldBy(k, now[WRITING]) == NONE ? 0 : grammar.verbs;
    }

    private boolean isEnough(int set, int verbs) {
        int known = now[KNOWN];
        for (int k = 0; k < laid.readers; k++) {
            known |= holds(set, k) ? toldVerbs[k] : 0;
        }
        boolean inTime = now[HOUR] + laid.hoursOf(set) < laid.fall();
        return (known & verbs) == verbs && inTime && laid.priceOf(set) <= now[GOLD];
    }

    private boolean isCheaper(int set, int other) {
        int less = laid.priceOf(other) - laid.priceOf(set);
        return less > 0 || less == 0 && laid.hoursOf(set) < laid.hoursOf(other);
    }

    private boolean isAsSeen(int row) {
        for (int i = 0; i < seen; i++) {
            if (toldBy(seenReader[i], row) == NONE || grammar.weight != seenWeight[i]) {
                return false;
            }
        }
        return true;
    }

    // ---- rows, sets and numbers

    private static int lettersIn(int row) {
        int letters = 0;
        int left = row;
        for (int i = 0; i < MOST_LETTERS && left > 0; i++) {
            left /= BASE;
            letters++;
        }
        return letters;
    }

    /** Whether a number is that of a row of up to 4 LETTERS. Such numbers rise in the very order that the rows are to come in. */
    private static boolean isShortRow(int number) {
        int left = number;
        for (int i = 0; i < SHORT_ROW && left > 0; i++) {
            if (left % BASE == 0) {
                return false;
            }
            left /= BASE;
        }
        return left == 0;
    }

    private static int rowOfWall(int z, int wall) {
        long x = 7919L * z + 6151L * wall + 1;
        int draw = (int) (x * x % 65521);
        int letters = 1 + draw % 4;
        int left = draw / 4;
        int row = 0;
        for (int j = 0; j < letters; j++) {
            row = row * BASE + left % LETTERS + 1;
            left /= LETTERS;
        }
        return row;
    }

    private static boolean holds(int set, int bit) {
        return (set >> bit & 1) == 1;
    }

    private static int wordsOfRoot(int r) {
        return 3 << 2 * r;
    }

    private int wordsOfRoots(int known) {
        int words = 0;
        for (int r = 0; r < laid.roots; r++) {
            words |= holds(known, r) ? wordsOfRoot(r) : 0;
        }
        return words;
    }

    /** How likely just these ROOTS are known, of 10 for each ROOT, all multiplied. */
    private long oddsOf(int known, int x) {
        int lost = laid.roots - Integer.bitCount(known);
        return power(10 - x, Integer.bitCount(known)) * power(x, lost);
    }

    private static long power(int number, int times) {
        long product = 1;
        for (int i = 0; i < times; i++) {
            product *= number;
        }
        return product;
    }

    private static int inLowestTerms(long above, long below, int part) {
        // No chance at all is 0 of 1, be it of nothing too: then each part is its own number.
        if (above <= 0 || below <= 0) {
            return part;
        }
        long shared = above;
        long rest = below;
        // Every second step at least halves the rest, so 128 are more than a long can need.
        for (int i = 0; i < 128 && rest > 0; i++) {
            long next = shared % rest;
            shared = rest;
            rest = next;
        }
        if (shared == 0) {
            return part;
        }
        return (int) ((part == 0 ? above : below) / shared);
    }

    /** What a TEXT tells. */
    private static final class World {
        final int[] rootRow = new int[MOST_ROOTS];
        final int[] rootSize = new int[MOST_ROOTS];
        final int[] rootWeight = new int[MOST_ROOTS];
        final int[] rootVerb = new int[MOST_ROOTS];
        final int[] readerKind = new int[MOST_READERS];
        final int[] readerHours = new int[MOST_READERS];
        final int[] readerPrice = new int[MOST_READERS];
        // The WORDS that are of a row of LETTERS, as bits: a table, for all short rows are looked through at one call.
        final int[] wordsOfRow = new int[ROOT_ROWS];
        int roots;
        int readers;
        int writing;
        int deep;
        int turned;
        int falls;
        int gold;

        void clear() {
            for (int r = 0; r < roots; r++) {
                wordsOfRow[rootRow[r]] = 0;
            }
            roots = 0;
            readers = 0;
            writing = 0;
            setRiver(20, 6, 3);
            gold = 30;
        }

        boolean addRoot(int row, int weight, int verb) {
            boolean isSo = row > 0 && row < ROOT_ROWS && (weight > 0 || verb > 0);
            if (!isSo || roots >= MOST_ROOTS || wordsOfRow[row] != 0) {
                return false;
            }
            rootRow[roots] = row;
            rootSize[roots] = lettersIn(row);
            rootWeight[roots] = weight;
            rootVerb[roots] = verb;
            wordsOfRow[row] = (weight > 0 ? 1 << 2 * roots : 0) | (verb > 0 ? 2 << 2 * roots : 0);
            roots++;
            return true;
        }

        boolean addReader(int kind, int hours, int price) {
            if (readers >= MOST_READERS) {
                return false;
            }
            readerKind[readers] = kind;
            readerHours[readers] = hours;
            readerPrice[readers] = price;
            readers++;
            return true;
        }

        void setRiver(int depth, int hour, int fallsBy) {
            deep = depth;
            turned = hour;
            falls = fallsBy;
        }

        /** The WORDS that say this VERB, as bits. */
        int wordsSaying(int verb) {
            int words = 0;
            for (int r = 0; r < roots; r++) {
                words |= rootVerb[r] == verb ? 2 << 2 * r : 0;
            }
            return words;
        }

        int depthIn(int hour) {
            return hour <= turned ? deep : Math.max(0, deep - falls * (hour - turned));
        }

        int fall() {
            if (falls <= 0) {
                return turned;
            }
            return turned + (deep - 2 + falls - 1) / falls;
        }

        int priceOf(int set) {
            int price = 0;
            for (int k = 0; k < readers; k++) {
                price += holds(set, k) ? readerPrice[k] : 0;
            }
            return price;
        }

        int hoursOf(int set) {
            int hours = 0;
            for (int k = 0; k < readers; k++) {
                hours += holds(set, k) ? readerHours[k] : 0;
            }
            return hours;
        }
    }

    /** THE TEXT, and what it tells, ITEM by ITEM. */
    private static final class Text {
        private final char[] signs = new char[MOST_SIGNS];
        int length;
        private int at;

        boolean add(char sign) {
            if (length >= MOST_SIGNS) {
                return false;
            }
            signs[length] = sign;
            length++;
            return true;
        }

        void clear() {
            length = 0;
        }

        /** FAULT; what was told ahead of it stands in the world then. */
        int firstFault(World into) {
            into.clear();
            at = 0;
            for (int items = 0; items < MOST_SIGNS && at < length; items++) {
                int start = at;
                if (!readItem(into)) {
                    return start;
                }
            }
            return NONE;
        }

        private boolean readItem(World into) {
            char letter = sign();
            at++;
            switch (letter) {
                case 'r': return readRoot(into);
                case 'k': return readReader(into);
                case 'w': return readWriting(into);
                case 'v': return readRiver(into);
                case 'g': return readGold(into);
                default: return false;
            }
        }

        private boolean readRoot(World into) {
            int row = readRow(ROOT_LETTERS, ',');
            int weight = readNumber(0, 60, ',');
            int verb = readNumber(0, LAST_VERB, ';');
            return row >= 0 && weight >= 0 && verb >= 0 && into.addRoot(row, weight, verb);
        }

        private boolean readReader(World into) {
            int kind = readNumber(0, QUEEN, ',');
            int hours = readNumber(1, 12, ',');
            int price = readNumber(0, 60, ';');
            return kind >= 0 && hours >= 0 && price >= 0 && into.addReader(kind, hours, price);
        }

        private boolean readWriting(World into) {
            into.writing = readRow(MOST_LETTERS, ';');
            return into.writing >= 0;
        }

        private boolean readRiver(World into) {
            int depth = readNumber(3, 60, ',');
            int hour = readNumber(0, 24, ',');
            int fallsBy = readNumber(1, 20, ';');
            into.setRiver(depth, hour, fallsBy);
            return depth >= 0 && hour >= 0 && fallsBy >= 0;
        }

        private boolean readGold(World into) {
            into.gold = readNumber(0, 99, ';');
            return into.gold >= 0;
        }

        /** A row of LETTERS and the sign behind it, or BAD. */
        private int readRow(int most, char behind) {
            int row = 0;
            for (int i = 0; i < most && sign() >= 'a' && sign() <= 'e'; i++) {
                row = row * BASE + sign() - 'a' + 1;
                at++;
            }
            return row > 0 && isNext(behind) ? row : BAD;
        }

        /** A number of one or two figures and the sign behind it, or BAD. */
        private int readNumber(int least, int most, char behind) {
            int number = BAD;
            for (int i = 0; i < 2 && sign() >= '0' && sign() <= '9'; i++) {
                number = Math.max(0, number) * 10 + sign() - '0';
                at++;
            }
            return number >= least && number <= most && isNext(behind) ? number : BAD;
        }

        private boolean isNext(char wanted) {
            boolean is = sign() == wanted;
            at++;
            return is;
        }

        /** The sign that is to be read now; behind the last one a sign that no TEXT holds. */
        private char sign() {
            return at < length && at < MOST_SIGNS ? signs[at] : (char) 0;
        }
    }

    /** The READINGS that one KIND of READER has of one row of LETTERS. */
    private static final class Grammar {
        // What may follow, and who has what ends here, hangs on one of three stages alone:
        // no VERB was read yet; a NOUN was read last, a VERB ahead of it; a VERB was read last.
        private static final int NO_VERB = 0, NOUN_LAST = 1, VERB_LAST = 2, STAGES = 3;
        private static final int SLOTS = (MOST_LETTERS + 1) * STAGES;

        private final World world;
        private final int[] letters = new int[MOST_LETTERS];
        // The WORDS, as bits, that are of the LETTERS from a place on, by how many LETTERS these are.
        private final int[] fits = new int[MOST_LETTERS * ROOT_LETTERS];
        // A slot is a place and a stage: place times STAGES, and the stage.
        private final int[] ways = new int[SLOTS];
        private final int[] best = new int[SLOTS];
        private int kind;
        private int end;
        private int allowed;
        // The READING picked last.
        final int[] words = new int[MOST_LETTERS];
        int size;
        int weight;
        int verbs;

        Grammar(World world) {
            this.world = world;
        }

        void take(int readerKind, int row) {
            kind = readerKind;
            end = lettersIn(row);
            int left = row;
            for (int i = 0; i < end; i++) {
                letters[kind == CHILD ? i : end - 1 - i] = left % BASE;
                left /= BASE;
            }
            for (int place = 0; place < end; place++) {
                fitWords(place);
            }
        }

        private void fitWords(int place) {
            int row = 0;
            for (int i = 0; i < ROOT_LETTERS; i++) {
                boolean isThere = place + i < end;
                row = isThere ? row * BASE + letters[place + i] : 0;
                fits[place * ROOT_LETTERS + i] = row < ROOT_ROWS ? world.wordsOfRow[row] : 0;
            }
        }

        /** How many READINGS of what was taken there are by these WORDS alone. */
        int tally(int wordsAllowed) {
            allowed = wordsAllowed;
            for (int stage = 0; stage < STAGES; stage++) {
                ways[end * STAGES + stage] = mayEndAt(stage) ? 1 : 0;
            }
            for (int place = end - 1; place >= 0; place--) {
                tallyFrom(place);
            }
            return end == 0 ? 0 : ways[0];
        }

        private void tallyFrom(int place) {
            int fresh = 0;
            int behindNoun = 0;
            int behindVerb = 0;
            for (int i = 0; i < ROOT_LETTERS && place + i < end; i++) {
                int fitting = fits[place * ROOT_LETTERS + i] & allowed;
                int behind = (place + i + 1) * STAGES;
                if ((fitting & NOUN_WORDS) != 0) {
                    fresh += ways[behind + NO_VERB];
                    behindNoun += ways[behind + NOUN_LAST];
                    behindVerb += ways[behind + NOUN_LAST];
                }
                if ((fitting & ~NOUN_WORDS) != 0) {
                    fresh += ways[behind + VERB_LAST];
                    behindNoun += ways[behind + VERB_LAST];
                }
            }
            ways[place * STAGES + NO_VERB] = fresh;
            ways[place * STAGES + NOUN_LAST] = behindNoun;
            ways[place * STAGES + VERB_LAST] = behindVerb;
        }

        private boolean mayEndAt(int stage) {
            switch (kind) {
                case COUNTER: return stage == NO_VERB;
                case PROPHET: return stage != NO_VERB;
                case QUEEN: return stage == VERB_LAST;
                default: return true;
            }
        }

        /** The WORDS, as bits, that may be read at a slot. */
        private int openAt(int slot) {
            int from = slot / STAGES * ROOT_LETTERS;
            int open = (fits[from] | fits[from + 1] | fits[from + 2]) & allowed;
            return slot % STAGES == VERB_LAST ? open & NOUN_WORDS : open;
        }

        /** The slot behind a WORD read at a slot; that slot itself, if fewer LETTERS are left than the WORD has. */
        private int slotBehind(int slot, int word) {
            int place = slot / STAGES + world.rootSize[word / 2];
            if (place > end) {
                return slot;
            }
            if (word % 2 == 1) {
                return place * STAGES + VERB_LAST;
            }
            return place * STAGES + (slot % STAGES == NO_VERB ? NO_VERB : NOUN_LAST);
        }

        /** Picks the i-th of the READINGS tallied, of which there must be so many. */
        void pick(int i) {
            size = 0;
            weight = 0;
            verbs = 0;
            int slot = 0;
            int left = i;
            for (int n = 0; n < MOST_LETTERS && slot < end * STAGES; n++) {
                int open = openAt(slot);
                for (int word = 0; word < MOST_WORDS; word++) {
                    int behind = holds(open, word) ? slotBehind(slot, word) : slot;
                    if (behind > slot && left < ways[behind]) {
                        addWord(word);
                        slot = behind;
                        break;
                    }
                    left -= behind > slot ? ways[behind] : 0;
                }
            }
        }

        private void addWord(int word) {
            words[size] = word;
            size++;
            if (word % 2 == 1) {
                verbs |= 1 << world.rootVerb[word / 2];
            } else {
                weight += world.rootWeight[word / 2];
            }
        }

        /** Which of the READINGS tallied is told; there must be one. */
        int told() {
            if (kind == CHILD) {
                return ways[0] - 1;
            }
            if (kind != COUNTER && kind != PROPHET) {
                return 0;
            }
            rank();
            return firstOfBest();
        }

        private void rank() {
            for (int stage = 0; stage < STAGES; stage++) {
                best[end * STAGES + stage] = 0;
            }
            for (int slot = end * STAGES - 1; slot >= 0; slot--) {
                best[slot] = ways[slot] > 0 ? bestFrom(slot) : 0;
            }
        }

        private int bestFrom(int slot) {
            int open = openAt(slot);
            int most = 0;
            for (int word = 0; word < MOST_WORDS && open >> word != 0; word++) {
                int behind = holds(open, word) ? slotBehind(slot, word) : slot;
                if (behind > slot && ways[behind] > 0) {
                    most = Math.max(most, gainOf(word) + best[behind]);
                }
            }
            return most;
        }

        private int gainOf(int word) {
            if (kind == PROPHET) {
                return word % 2;
            }
            return word % 2 == 0 ? world.rootWeight[word / 2] : 0;
        }

        private int firstOfBest() {
            int ahead = 0;
            int slot = 0;
            for (int n = 0; n < MOST_LETTERS && slot < end * STAGES; n++) {
                int open = openAt(slot);
                for (int word = 0; word < MOST_WORDS; word++) {
                    int behind = holds(open, word) ? slotBehind(slot, word) : slot;
                    if (behind > slot && ways[behind] > 0 && gainOf(word) + best[behind] == best[slot]) {
                        slot = behind;
                        break;
                    }
                    ahead += behind > slot ? ways[behind] : 0;
                }
            }
            return ahead;
        }
    }

    /** Moments laid one on the other; where there is no room the lowest one falls out. */
    private static final class Shelf {
        private final int[] moments = new int[MOST_UNDONE * MOMENT];
        int held;

        void put(int[] moment) {
            if (held >= MOST_UNDONE) {
                System.arraycopy(moments, MOMENT, moments, 0, (MOST_UNDONE - 1) * MOMENT);
                held = MOST_UNDONE - 1;
            }
            System.arraycopy(moment, 0, moments, held * MOMENT, MOMENT);
            held++;
        }

        void takeInto(int[] moment) {
            if (held <= 0) {
                return;
            }
            held--;
            System.arraycopy(moments, held * MOMENT, moment, 0, MOMENT);
        }
    }
}
