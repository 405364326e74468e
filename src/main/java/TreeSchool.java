import java.util.Arrays;
import java.util.NoSuchElementException;

/** A grammar school's bench: grammars, sentences, their trees, and a pupil's drawing held against them. */
public final class TreeSchool {
    public static final int NONE = -1;

    private static final int TAPE_ROOM = 1540;
    private static final int TEXT_LIMIT = 1500;
    private static final int FEED_BYTES = 20;
    private static final int NAME_LIMIT = 10;
    private static final int WORD_LIMIT = 14;
    private static final int ENTRY_LIMIT = 40;
    private static final int RULE_LIMIT = 30;
    private static final int LAW_LIMIT = 8;
    private static final int CATEGORY_LIMIT = 16;
    private static final int SIGN_LIMIT = 60;
    private static final int BRACKET_LIMIT = 40;
    private static final int TREE_LIMIT = 1000000;
    private static final int FEATURES = 4;
    private static final int TOP_DIGIT = 3;

    // Spans i, j with 0 <= i < j <= 14.
    private static final int CELLS = 105;
    // A chain of rules of one part never meets a category twice, so a span has 16 nodes of a tree at most;
    // a tree over 14 words has 27 spans, and 14 of them lie in one another.
    private static final int NODE_LIMIT = 27 * CATEGORY_LIMIT;
    private static final int DEPTH_LIMIT = WORD_LIMIT * CATEGORY_LIMIT;

    private static final long MANY = 1000000000000000L;
    // Above any sum of slips (40 brackets, 432 nodes).
    private static final long FAR = 1000000L;

    // A sign is one number: its category above 12 bits, then three bits a feature, feature 0 the highest,
    // with 0 for none and the value + 1 else: so the order of the numbers is the order of the signs.
    private static final int FEATURE_BITS = 12;

    private final Tape tape;
    private final GrammarReader reader;
    private final Sentence sentence;
    private final Drawing drawing;
    private final Chart chart;
    private final Tree hand;
    private final Finder finder;
    private final byte[] out;
    private Grammar current;
    private Grammar spare;
    private int outSize;
    private int faultKind;

    public TreeSchool() {
        tape = new Tape();
        reader = new GrammarReader(tape);
        sentence = new Sentence();
        drawing = new Drawing();
        chart = new Chart(sentence, drawing);
        hand = new Tree();
        finder = new Finder(chart, sentence, hand);
        out = new byte[NAME_LIMIT];
        current = new Grammar();
        spare = new Grammar();
        outSize = 0;
        faultKind = 0;
    }

    public int feed(int a, int b, int c, int d, int e) {
        if (tape.size + FEED_BYTES > TAPE_ROOM) {
            return NONE;
        }
        tape.addNumber(a);
        tape.addNumber(b);
        tape.addNumber(c);
        tape.addNumber(d);
        tape.addNumber(e);
        return tape.size;
    }

    public boolean end(int n) {
        if (n < 0 || n > tape.size) {
            return false;
        }
        tape.size = n;
        return true;
    }

    public int grammar() {
        boolean sound = reader.readInto(spare);
        tape.size = 0;
        faultKind = reader.faultKind;
        if (!sound) {
            return -1 - reader.faultPlace;
        }
        Grammar old = current;
        current = spare;
        spare = old;
        sentence.size = 0;
        drawing.clear();
        hand.size = 0;
        return current.entries + current.rules;
    }

    public int fault() {
        return faultKind;
    }

    public int read() {
        boolean sound = sentence.scan(tape);
        tape.size = 0;
        if (!sound || current.rules == 0) {
            return NONE;
        }
        sentence.keepScanned();
        drawing.clear();
        hand.size = 0;
        if (!chart.fill(current)) {
            sentence.size = 0;
            return -2;
        }
        drawing.priced = true;
        return treeTotal() > 0 ? 1 : 0;
    }

    public long trees() {
        return treeTotal();
    }

    public int signs(int i, int j) {
        return isSpan(i, j) ? chart.size[cellOf(i, j)] : NONE;
    }

    public int sign(int i, int j, int k, int what) throws NoSuchElementException {
        if (what < 0 || what > FEATURES || !isSign(i, j, k)) {
            throw new NoSuchElementException("no such sign");
        }
        int code = chart.code[cellOf(i, j) * SIGN_LIMIT + k];
        return what == 0 ? code >> FEATURE_BITS : valueIn(code, what - 1);
    }

    public long times(int i, int j, int k) throws NoSuchElementException {
        if (!isSign(i, j, k)) {
            throw new NoSuchElementException("no such sign");
        }
        return chart.ways[cellOf(i, j) * SIGN_LIMIT + k];
    }

    public int tree(int k) {
        if (k < 0 || k >= TREE_LIMIT || k >= treeTotal()) {
            return NONE;
        }
        finder.find(current, false, k);
        return hand.size;
    }

    public int node(int m, int what) throws NoSuchElementException {
        if (m < 0 || m >= hand.size || what < 0 || what > 8) {
            throw new NoSuchElementException("no such node");
        }
        switch (what) {
            case 0:
                return hand.code[m] >> FEATURE_BITS;
            case 1:
                return hand.from[m];
            case 2:
                return hand.to[m];
            case 3:
                return hand.by[m];
            case 4:
                return hand.depth[m];
            default:
                return valueIn(hand.code[m], what - 5);
        }
    }

    public boolean bracket(int i, int j) {
        int c = takeCategory();
        return c >= 0 && isSpan(i, j) && drawing.addBracket(c, cellOf(i, j));
    }

    public int wipe() {
        int had = drawing.size;
        drawing.clear();
        return had;
    }

    public int slips() {
        if (treeTotal() == 0) {
            return NONE;
        }
        priceChart();
        return drawing.size + chart.leastCost(cellOf(0, sentence.size), current.root());
    }

    public int mark() {
        if (treeTotal() == 0) {
            return NONE;
        }
        priceChart();
        finder.find(current, true, 0);
        return hand.size;
    }

    public int held() {
        return hand.size == 0 ? NONE : drawing.size + hand.costUnder(drawing);
    }

    public int name(int c) {
        if (c < 0 || c >= current.categories) {
            return NONE;
        }
        long code = current.categoryName[c];
        outSize = lengthOfName(code);
        for (int k = outSize - 1; k >= 0; k--) {
            out[k] = (byte) ('a' - 1 + (int) (code & 31));
            code >>= 5;
        }
        return outSize;
    }

    public int category() {
        return takeCategory();
    }

    public int octet(int k) throws NoSuchElementException {
        if (k < 0 || k >= outSize) {
            throw new NoSuchElementException("no such byte");
        }
        return out[k];
    }

    public int count(int what) {
        switch (what) {
            case 0:
                return current.entries;
            case 1:
                return current.rules;
            case 2:
                return current.categories;
            case 3:
                return sentence.size;
            case 4:
                return drawing.size;
            case 5:
                return hand.size;
            case 6:
                return tape.size;
            case 7:
                return outSize;
            default:
                return NONE;
        }
    }

    private int takeCategory() {
        long wanted = tape.onlyName();
        tape.size = 0;
        return current.categoryOf(wanted);
    }

    private boolean isSpan(int i, int j) {
        return 0 <= i && i < j && j <= sentence.size;
    }

    private boolean isSign(int i, int j, int k) {
        return isSpan(i, j) && k >= 0 && k < chart.size[cellOf(i, j)];
    }

    private long treeTotal() {
        return sentence.size == 0 ? 0 : chart.totalWays(cellOf(0, sentence.size), current.root());
    }

    // The costs are wanted by slips() and mark() alone, so a bracket only notes that they are old.
    private void priceChart() {
        if (!drawing.priced) {
            chart.fill(current);
            drawing.priced = true;
        }
    }

    private static int cellOf(int i, int j) {
        return (j * (j - 1) >> 1) + i;
    }

    private static int shiftOf(int feature) {
        return 9 - 3 * feature;
    }

    private static int valueIn(int code, int feature) {
        return ((code >> shiftOf(feature)) & 7) - 1;
    }

    private static int lengthOfName(long code) {
        int length = 0;
        for (long rest = code; rest != 0 && length < NAME_LIMIT; rest >>= 5) {
            length++;
        }
        return length;
    }

    private static long sumOf(long a, long b) {
        return a < MANY - b ? a + b : MANY;
    }

    private static long productOf(long a, long b) {
        if (a <= 0 || b <= 0) {
            return 0;
        }
        return a > MANY / b ? MANY : a * b;
    }

    /** The bytes that have been fed. */
    private static final class Tape {
        // A name is one number, five bits a letter: no name has this one.
        private static final long NO_NAME = 0;

        private final byte[] bytes;
        private int size;

        private Tape() {
            bytes = new byte[TAPE_ROOM];
            size = 0;
        }

        private void addNumber(int number) {
            for (int shift = 24; shift >= 0 && size < TAPE_ROOM; shift -= 8) {
                bytes[size] = (byte) (number >> shift);
                size++;
            }
        }

        private boolean isBlankAt(int place) {
            return bytes[place] == 32 || bytes[place] == 10;
        }

        private boolean isLetterAt(int place) {
            return bytes[place] >= 'a' && bytes[place] <= 'z';
        }

        private boolean isDigitAt(int place) {
            return bytes[place] >= '0' && bytes[place] <= '9';
        }

        private int behindBlanks(int place) {
            int at = place;
            while (at < size && isBlankAt(at)) {
                at++;
            }
            return at;
        }

        private int behindLetters(int place) {
            int at = place;
            while (at < size && isLetterAt(at)) {
                at++;
            }
            return at;
        }

        private int behindLettersAndDigits(int place) {
            int at = place;
            while (at < size && (isLetterAt(at) || isDigitAt(at))) {
                at++;
            }
            return at;
        }

        private long nameBetween(int start, int stop) {
            if (start >= stop || stop - start > NAME_LIMIT || stop > size) {
                return NO_NAME;
            }
            long code = 0;
            for (int at = start; at < stop; at++) {
                if (!isLetterAt(at)) {
                    return NO_NAME;
                }
                code = (code << 5) + (bytes[at] - 'a' + 1);
            }
            return code;
        }

        private long onlyName() {
            int start = behindBlanks(0);
            int stop = behindLetters(start);
            return behindBlanks(stop) == size ? nameBetween(start, stop) : NO_NAME;
        }
    }

    /** A grammar's tokens, from the tape's first one to its end or to the first that is none. */
    private static final class Tokens {
        private static final int NAME = 0;
        private static final int NUMBER = 1;
        private static final int EQUALS = 2;
        private static final int SEMICOLON = 3;
        private static final int WORD = 4;
        private static final int RULE = 5;
        private static final int AGREE = 6;
        private static final int IS = 7;
        private static final int END = 8;
        private static final int BAD = 9;

        // Tokens begin ahead of byte 1500, and the end comes behind them.
        private static final int TOKEN_LIMIT = TEXT_LIMIT + 1;

        private static final long WORD_NAME = (23L << 15) | (15L << 10) | (18L << 5) | 4L;
        private static final long RULE_NAME = (18L << 15) | (21L << 10) | (12L << 5) | 5L;
        private static final long AGREE_NAME = (1L << 20) | (7L << 15) | (18L << 10) | (5L << 5) | 5L;
        private static final long IS_NAME = (9L << 5) | 19L;

        private final Tape tape;
        private final int[] kind;
        private final int[] place;
        // A name's number, a number's digit.
        private final long[] value;
        private int size;

        private Tokens(Tape tape) {
            this.tape = tape;
            kind = new int[TOKEN_LIMIT];
            place = new int[TOKEN_LIMIT];
            value = new long[TOKEN_LIMIT];
            size = 0;
        }

        private void scan() {
            size = 0;
            int next = 0;
            for (int seen = 0; seen < TOKEN_LIMIT; seen++) {
                int at = tape.behindBlanks(next);
                if (at >= TEXT_LIMIT && tape.size > TEXT_LIMIT) {
                    addToken(BAD, TEXT_LIMIT, 0);
                    return;
                }
                if (at >= tape.size) {
                    addToken(END, tape.size, 0);
                    return;
                }
                next = Math.max(at + 1, tape.behindLettersAndDigits(at));
                takeToken(at, next);
                if (kind[seen] == BAD) {
                    return;
                }
            }
        }

        private void takeToken(int at, int next) {
            long letters = tape.nameBetween(at, next);
            int first = tape.bytes[at];
            if (letters != Tape.NO_NAME) {
                addToken(kindOfName(letters), at, letters);
            } else if (next > at + 1) {
                addToken(BAD, at, 0);
            } else if (tape.isDigitAt(at)) {
                addToken(NUMBER, at, first - '0');
            } else {
                addToken(first == '=' ? EQUALS : first == ';' ? SEMICOLON : BAD, at, 0);
            }
        }

        private void addToken(int ofKind, int at, long ofValue) {
            if (size < TOKEN_LIMIT) {
                kind[size] = ofKind;
                place[size] = at;
                value[size] = ofValue;
                size++;
            }
        }

        private static int kindOfName(long letters) {
            if (letters == WORD_NAME) {
                return WORD;
            }
            if (letters == RULE_NAME) {
                return RULE;
            }
            if (letters == AGREE_NAME) {
                return AGREE;
            }
            return letters == IS_NAME ? IS : NAME;
        }
    }

    /** The laws of the rule that is being read. */
    private static final class Laws {
        private final boolean[] agree;
        private final int[] feature;
        private final int[] slot;
        // The second slot of an agree law, the value of an is law.
        private final int[] other;
        private final int[] digits;
        private int size;

        private Laws() {
            agree = new boolean[LAW_LIMIT];
            feature = new int[LAW_LIMIT];
            slot = new int[LAW_LIMIT];
            other = new int[LAW_LIMIT];
            digits = new int[3];
            size = 0;
        }

        private void addLaw(boolean isAgree, int onFeature, int onSlot, int second) {
            if (size < LAW_LIMIT) {
                agree[size] = isAgree;
                feature[size] = onFeature;
                slot[size] = onSlot;
                other[size] = second;
                size++;
            }
        }

        private boolean areAbout(int onFeature) {
            for (int law = 0; law < size; law++) {
                if (feature[law] == onFeature) {
                    return true;
                }
            }
            return false;
        }

        // Digits are 0 for none, else the value + 1. The whole's digit, or NONE if the rule makes nothing.
        private int wholeDigit(int onFeature, int first, int second) {
            digits[0] = 0;
            digits[1] = first;
            digits[2] = second;
            for (int law = 0; law < size; law++) {
                if (feature[law] == onFeature && !obeyed(law)) {
                    return NONE;
                }
            }
            return digits[0];
        }

        private boolean obeyed(int law) {
            int mine = digits[slot[law]];
            int due = agree[law] ? digits[other[law]] : other[law] + 1;
            if (mine != 0 && due != 0 && mine != due) {
                return false;
            }
            int both = mine != 0 ? mine : due;
            digits[slot[law]] = both;
            if (agree[law]) {
                digits[other[law]] = both;
            }
            return true;
        }
    }

    /** Entries, rules and categories, with what each rule makes of its parts' features. */
    private static final class Grammar {
        private static final int DIGITS = 5;
        private static final int PAIRS = DIGITS * DIGITS;
        private static final int RULE_ROOM = FEATURES * PAIRS;

        private final long[] entryWord;
        private final int[] entryCode;
        private final int[] whole;
        private final int[] first;
        private final int[] second;
        private final int[] place;
        // A law is about one feature alone, so a rule is told by four small tables, a feature each.
        private final int[] made;
        private final long[] categoryName;
        private final int[] reach;
        private final int[] singles;
        private int entries;
        private int rules;
        private int categories;
        private int singleCount;

        private Grammar() {
            entryWord = new long[ENTRY_LIMIT];
            entryCode = new int[ENTRY_LIMIT];
            whole = new int[RULE_LIMIT];
            first = new int[RULE_LIMIT];
            second = new int[RULE_LIMIT];
            place = new int[RULE_LIMIT];
            made = new int[RULE_LIMIT * RULE_ROOM];
            categoryName = new long[CATEGORY_LIMIT];
            reach = new int[CATEGORY_LIMIT];
            singles = new int[RULE_LIMIT];
        }

        private void clear() {
            entries = 0;
            rules = 0;
            categories = 0;
            singleCount = 0;
        }

        private int root() {
            return whole[0];
        }

        private boolean isSingle(int rule) {
            return second[rule] < 0;
        }

        private int categoryOf(long wanted) {
            for (int c = 0; c < categories; c++) {
                if (categoryName[c] == wanted) {
                    return c;
                }
            }
            return NONE;
        }

        private int addCategory(long letters) {
            if (categories >= CATEGORY_LIMIT) {
                return NONE;
            }
            categoryName[categories] = letters;
            categories++;
            return categories - 1;
        }

        private void addEntry(long letters, int code) {
            if (entries < ENTRY_LIMIT) {
                entryWord[entries] = letters;
                entryCode[entries] = code;
                entries++;
            }
        }

        private void addRule(int category, int left, int right, int at, Laws laws) {
            if (rules >= RULE_LIMIT) {
                return;
            }
            whole[rules] = category;
            first[rules] = left;
            second[rules] = right;
            place[rules] = at;
            tabulate(rules, laws);
            rules++;
        }

        private void tabulate(int rule, Laws laws) {
            int secondDigits = isSingle(rule) ? 1 : DIGITS;
            for (int feature = 0; feature < FEATURES; feature++) {
                int row = rule * RULE_ROOM + feature * PAIRS;
                Arrays.fill(made, row, row + PAIRS, 0);
                if (laws.areAbout(feature)) {
                    tabulateFeature(row, feature, secondDigits, laws);
                }
            }
        }

        private void tabulateFeature(int row, int feature, int secondDigits, Laws laws) {
            for (int a = 0; a < DIGITS; a++) {
                for (int b = 0; b < secondDigits; b++) {
                    int digit = laws.wholeDigit(feature, a, b);
                    made[row + a * DIGITS + b] = digit < 0 ? NONE : digit << shiftOf(feature);
                }
            }
        }

        // The sign that the rule makes of its parts' signs (of one part: the second is 0), or NONE.
        private int join(int rule, int a, int b) {
            int row = rule * RULE_ROOM;
            int bits = made[row + ((a >> 9) & 7) * DIGITS + ((b >> 9) & 7)]
                    | made[row + PAIRS + ((a >> 6) & 7) * DIGITS + ((b >> 6) & 7)]
                    | made[row + 2 * PAIRS + ((a >> 3) & 7) * DIGITS + ((b >> 3) & 7)]
                    | made[row + 3 * PAIRS + (a & 7) * DIGITS + (b & 7)];
            return bits < 0 ? NONE : (whole[rule] << FEATURE_BITS) | bits;
        }

        // The first rule of one part that leads back to its own category, or NONE.
        private int firstLoop() {
            closeReach();
            for (int rule = 0; rule < rules; rule++) {
                if (isSingle(rule)) {
                    int part = first[rule];
                    if (part == whole[rule] || reaches(part, whole[rule])) {
                        return rule;
                    }
                }
            }
            return NONE;
        }

        private boolean reaches(int from, int to) {
            return ((reach[from] >> to) & 1) != 0;
        }

        private void closeReach() {
            Arrays.fill(reach, 0);
            for (int rule = 0; rule < rules; rule++) {
                if (isSingle(rule)) {
                    reach[whole[rule]] |= 1 << first[rule];
                }
            }
            for (int way = 0; way < categories; way++) {
                for (int from = 0; from < categories; from++) {
                    if (reaches(from, way)) {
                        reach[from] |= reach[way];
                    }
                }
            }
        }

        // What a category reaches reaches less than it does: so by that number all that makes
        // a part's signs comes ahead of what uses them.
        private void orderSingles() {
            singleCount = 0;
            for (int reached = 1; reached < CATEGORY_LIMIT; reached++) {
                for (int rule = 0; rule < rules; rule++) {
                    if (isSingle(rule) && Integer.bitCount(reach[whole[rule]]) == reached) {
                        singles[singleCount] = rule;
                        singleCount++;
                    }
                }
            }
        }
    }

    /** Reads the tape as a grammar, up to its first fault. */
    private static final class GrammarReader {
        private static final int NO_TOKEN = 1;
        private static final int WRONG_NUMBER = 2;
        private static final int TOO_MANY = 3;
        private static final int LOOP = 4;

        private final Tokens tokens;
        private final Laws laws;
        private int at;
        private Grammar target;
        private int faultKind;
        private int faultPlace;

        private GrammarReader(Tape tape) {
            tokens = new Tokens(tape);
            laws = new Laws();
            at = 0;
            faultKind = 0;
            faultPlace = 0;
        }

        private boolean readInto(Grammar empty) {
            target = empty;
            target.clear();
            faultKind = 0;
            faultPlace = 0;
            tokens.scan();
            at = 0;
            for (int items = 0; items <= ENTRY_LIMIT + RULE_LIMIT; items++) {
                int kind = tokens.kind[at];
                if (items > 0 && kind == Tokens.END) {
                    return isLoopless();
                }
                boolean taken = kind == Tokens.WORD ? takeEntry() : kind == Tokens.RULE ? takeRule() : fail(NO_TOKEN);
                if (!taken) {
                    return false;
                }
            }
            return fail(TOO_MANY);
        }

        private boolean isLoopless() {
            int rule = target.firstLoop();
            if (rule >= 0) {
                faultKind = LOOP;
                faultPlace = target.place[rule];
                return false;
            }
            target.orderSingles();
            return true;
        }

        private boolean takeEntry() {
            if (target.entries >= ENTRY_LIMIT) {
                return fail(TOO_MANY);
            }
            advance();
            long letters = tokens.value[at];
            if (!takeKind(Tokens.NAME)) {
                return false;
            }
            int category = takeCategoryName();
            if (category < 0) {
                return false;
            }
            int bits = takeFeatures();
            if (bits < 0 || !takeKind(Tokens.SEMICOLON)) {
                return false;
            }
            target.addEntry(letters, (category << FEATURE_BITS) | bits);
            return true;
        }

        private int takeFeatures() {
            int bits = 0;
            for (int pairs = 0; pairs < TAPE_ROOM && tokens.kind[at] == Tokens.NUMBER; pairs++) {
                int feature = takeDigit(TOP_DIGIT);
                if (feature < 0) {
                    return NONE;
                }
                int value = takeDigit(TOP_DIGIT);
                if (value < 0) {
                    return NONE;
                }
                bits = (bits & ~(7 << shiftOf(feature))) | ((value + 1) << shiftOf(feature));
            }
            return bits;
        }

        private boolean takeRule() {
            if (target.rules >= RULE_LIMIT) {
                return fail(TOO_MANY);
            }
            int place = tokens.place[at];
            advance();
            int category = takeCategoryName();
            if (category < 0 || !takeKind(Tokens.EQUALS)) {
                return false;
            }
            int left = takeCategoryName();
            if (left < 0) {
                return false;
            }
            int right = NONE;
            if (tokens.kind[at] == Tokens.NAME) {
                right = takeCategoryName();
                if (right < 0) {
                    return false;
                }
            }
            if (!takeLaws(right < 0 ? 1 : 2) || !takeKind(Tokens.SEMICOLON)) {
                return false;
            }
            target.addRule(category, left, right, place, laws);
            return true;
        }

        private boolean takeLaws(int parts) {
            laws.size = 0;
            for (int taken = 0; taken <= LAW_LIMIT; taken++) {
                boolean agree = tokens.kind[at] == Tokens.AGREE;
                if (!agree && tokens.kind[at] != Tokens.IS) {
                    return true;
                }
                if (taken == LAW_LIMIT) {
                    return fail(TOO_MANY);
                }
                advance();
                if (!takeLaw(agree, parts)) {
                    return false;
                }
            }
            return true;
        }

        private boolean takeLaw(boolean agree, int parts) {
            int feature = takeDigit(TOP_DIGIT);
            if (feature < 0) {
                return false;
            }
            int slot = takeDigit(parts);
            if (slot < 0) {
                return false;
            }
            if (agree && tokens.kind[at] == Tokens.NUMBER && tokens.value[at] == slot) {
                return fail(WRONG_NUMBER);
            }
            int other = takeDigit(agree ? parts : TOP_DIGIT);
            if (other < 0) {
                return false;
            }
            laws.addLaw(agree, feature, slot, other);
            return true;
        }

        private int takeCategoryName() {
            if (tokens.kind[at] != Tokens.NAME) {
                fail(NO_TOKEN);
                return NONE;
            }
            int category = target.categoryOf(tokens.value[at]);
            if (category < 0) {
                category = target.addCategory(tokens.value[at]);
            }
            if (category < 0) {
                fail(TOO_MANY);
                return NONE;
            }
            advance();
            return category;
        }

        private int takeDigit(int highest) {
            if (tokens.kind[at] != Tokens.NUMBER) {
                fail(NO_TOKEN);
                return NONE;
            }
            int digit = (int) tokens.value[at];
            if (digit > highest) {
                fail(WRONG_NUMBER);
                return NONE;
            }
            advance();
            return digit;
        }

        private boolean takeKind(int kind) {
            if (tokens.kind[at] != kind) {
                return fail(NO_TOKEN);
            }
            advance();
            return true;
        }

        // The last token is the end or none at all, and nothing goes past it.
        private void advance() {
            if (at + 1 < tokens.size) {
                at++;
            }
        }

        private boolean fail(int kind) {
            faultKind = kind;
            faultPlace = tokens.place[at];
            return false;
        }
    }

    /** The words of the sentence; none of them if there is no sentence. */
    private static final class Sentence {
        private final long[] words;
        // A tape that is no sentence must leave the words as they are.
        private final long[] scanned;
        private int size;
        private int scannedSize;

        private Sentence() {
            words = new long[WORD_LIMIT];
            scanned = new long[WORD_LIMIT];
            size = 0;
            scannedSize = 0;
        }

        private boolean scan(Tape tape) {
            scannedSize = 0;
            if (tape.size > TEXT_LIMIT) {
                return false;
            }
            int start = tape.behindBlanks(0);
            while (start < tape.size) {
                int stop = tape.behindLetters(start);
                long letters = tape.nameBetween(start, stop);
                if (letters == Tape.NO_NAME || scannedSize >= WORD_LIMIT) {
                    return false;
                }
                scanned[scannedSize] = letters;
                scannedSize++;
                start = tape.behindBlanks(stop);
            }
            return scannedSize > 0;
        }

        private void keepScanned() {
            System.arraycopy(scanned, 0, words, 0, scannedSize);
            size = scannedSize;
        }
    }

    /** The brackets: of each span the categories that are drawn over it, a bit each. */
    private static final class Drawing {
        private final int[] drawn;
        private int size;
        // Whether the chart's costs are those of these brackets.
        private boolean priced;

        private Drawing() {
            drawn = new int[CELLS];
            size = 0;
            priced = false;
        }

        private void clear() {
            if (size > 0) {
                Arrays.fill(drawn, 0);
                size = 0;
                priced = false;
            }
        }

        private boolean has(int category, int cell) {
            return ((drawn[cell] >> category) & 1) != 0;
        }

        private boolean addBracket(int category, int cell) {
            if (size >= BRACKET_LIMIT || has(category, cell)) {
                return false;
            }
            drawn[cell] |= 1 << category;
            size++;
            priced = false;
            return true;
        }

        // Slips are counted from all brackets missed, so a node that meets one takes a slip back.
        private int costOfNode(int category, int cell) {
            return has(category, cell) ? -1 : 1;
        }
    }

    /** The signs of every span, of how many trees each is the top, and the least cost of these. */
    private static final class Chart {
        private static final int RANGES = CATEGORY_LIMIT + 1;

        private final Sentence sentence;
        private final Drawing drawing;
        private final int[] size;
        private final int[] code;
        private final long[] ways;
        private final int[] cost;
        // Where in a span's signs those of each category begin.
        private final int[] range;
        private Grammar grammar;
        private int cell;

        private Chart(Sentence sentence, Drawing drawing) {
            this.sentence = sentence;
            this.drawing = drawing;
            size = new int[CELLS];
            code = new int[CELLS * SIGN_LIMIT];
            ways = new long[CELLS * SIGN_LIMIT];
            cost = new int[CELLS * SIGN_LIMIT];
            range = new int[CELLS * RANGES];
        }

        // False if a span has too many signs.
        private boolean fill(Grammar told) {
            grammar = told;
            for (int length = 1; length <= sentence.size; length++) {
                for (int i = 0; i + length <= sentence.size; i++) {
                    if (!fillSpan(i, i + length)) {
                        return false;
                    }
                }
            }
            return true;
        }

        private boolean fillSpan(int i, int j) {
            cell = cellOf(i, j);
            size[cell] = 0;
            if (j == i + 1 && !addEntries(sentence.words[i])) {
                return false;
            }
            for (int m = i + 1; m < j; m++) {
                if (!addPairs(cellOf(i, m), cellOf(m, j))) {
                    return false;
                }
            }
            if (size[cell] > 0 && !addSingles()) {
                return false;
            }
            setRanges();
            return true;
        }

        private boolean addEntries(long word) {
            for (int entry = 0; entry < grammar.entries; entry++) {
                if (grammar.entryWord[entry] == word) {
                    int made = grammar.entryCode[entry];
                    if (!addTrees(made, 1, drawing.costOfNode(made >> FEATURE_BITS, cell))) {
                        return false;
                    }
                }
            }
            return true;
        }

        private boolean addPairs(int left, int right) {
            if (size[left] == 0 || size[right] == 0) {
                return true;
            }
            for (int rule = 0; rule < grammar.rules; rule++) {
                if (!grammar.isSingle(rule) && !addByRule(rule, left, right)) {
                    return false;
                }
            }
            return true;
        }

        private boolean addByRule(int rule, int left, int right) {
            int lastA = behindLast(left, grammar.first[rule]);
            int firstB = firstOf(right, grammar.second[rule]);
            int lastB = behindLast(right, grammar.second[rule]);
            int own = drawing.costOfNode(grammar.whole[rule], cell);
            for (int a = firstOf(left, grammar.first[rule]); a < lastA; a++) {
                for (int b = firstB; b < lastB; b++) {
                    int made = grammar.join(rule, code[a], code[b]);
                    if (made >= 0 && !addTrees(made, productOf(ways[a], ways[b]), own + cost[a] + cost[b])) {
                        return false;
                    }
                }
            }
            return true;
        }

        private boolean addSingles() {
            for (int k = 0; k < grammar.singleCount; k++) {
                if (!addBySingle(grammar.singles[k])) {
                    return false;
                }
            }
            return true;
        }

        // What is added may move the part's signs along, so the next one is looked for by its number.
        private boolean addBySingle(int rule) {
            int own = drawing.costOfNode(grammar.whole[rule], cell);
            int behind = (grammar.first[rule] + 1) << FEATURE_BITS;
            int wanted = grammar.first[rule] << FEATURE_BITS;
            for (int seen = 0; seen < SIGN_LIMIT; seen++) {
                int at = placeOf(cell, wanted);
                if (at >= cell * SIGN_LIMIT + size[cell] || code[at] >= behind) {
                    return true;
                }
                wanted = code[at] + 1;
                int made = grammar.join(rule, code[at], 0);
                if (made >= 0 && !addTrees(made, ways[at], own + cost[at])) {
                    return false;
                }
            }
            return true;
        }

        private boolean addTrees(int made, long newWays, int newCost) {
            int at = placeOf(cell, made);
            int stop = cell * SIGN_LIMIT + size[cell];
            if (at < stop && code[at] == made) {
                ways[at] = sumOf(ways[at], newWays);
                cost[at] = Math.min(cost[at], newCost);
                return true;
            }
            if (size[cell] >= SIGN_LIMIT) {
                return false;
            }
            for (int k = stop; k > at; k--) {
                code[k] = code[k - 1];
                ways[k] = ways[k - 1];
                cost[k] = cost[k - 1];
            }
            code[at] = made;
            ways[at] = newWays;
            cost[at] = newCost;
            size[cell]++;
            return true;
        }

        // Where the sign stands, or where it would have to.
        private int placeOf(int inCell, int wanted) {
            int low = inCell * SIGN_LIMIT;
            int high = low + size[inCell];
            while (low < high) {
                int middle = (low + high) >> 1;
                if (code[middle] < wanted) {
                    low = middle + 1;
                } else {
                    high = middle;
                }
            }
            return low;
        }

        private void setRanges() {
            int at = cell * SIGN_LIMIT;
            int stop = at + size[cell];
            for (int category = 0; category < RANGES; category++) {
                while (at < stop && code[at] >> FEATURE_BITS < category) {
                    at++;
                }
                range[cell * RANGES + category] = at;
            }
        }

        private int firstOf(int inCell, int category) {
            return range[inCell * RANGES + category];
        }

        private int behindLast(int inCell, int category) {
            return range[inCell * RANGES + category + 1];
        }

        private long totalWays(int inCell, int category) {
            long total = 0;
            int stop = behindLast(inCell, category);
            for (int at = firstOf(inCell, category); at < stop; at++) {
                total = sumOf(total, ways[at]);
            }
            return total;
        }

        private int leastCost(int inCell, int category) {
            int least = (int) FAR;
            int stop = behindLast(inCell, category);
            for (int at = firstOf(inCell, category); at < stop; at++) {
                least = Math.min(least, cost[at]);
            }
            return least;
        }
    }

    /** The tree at hand; without nodes if there is none. */
    private static final class Tree {
        private final int[] code;
        private final int[] from;
        private final int[] to;
        private final int[] by;
        private final int[] depth;
        private int size;

        private Tree() {
            code = new int[NODE_LIMIT];
            from = new int[NODE_LIMIT];
            to = new int[NODE_LIMIT];
            by = new int[NODE_LIMIT];
            depth = new int[NODE_LIMIT];
            size = 0;
        }

        private boolean addNode(int category, int i, int j, int within) {
            if (size >= NODE_LIMIT) {
                return false;
            }
            code[size] = category << FEATURE_BITS;
            from[size] = i;
            to[size] = j;
            by[size] = 0;
            depth[size] = within;
            size++;
            return true;
        }

        private int costUnder(Drawing drawing) {
            int cost = 0;
            for (int k = 0; k < size; k++) {
                cost += drawing.costOfNode(code[k] >> FEATURE_BITS, cellOf(from[k], to[k]));
            }
            return cost;
        }
    }

    /**
     * Finds a tree by its number in the order, or the first of least cost, from its top down.
     *
     * Trees with unlike signs stand mixed in the order. So a node that is looked for has a weight for
     * each sign that it may get: by number, how many ways there are to go on behind a tree with that
     * sign; by cost, the least that must still be added to it. Both are reckoned alike, once with
     * products and sums, once with sums and least ones.
     */
    private static final class Finder {
        private static final int NOT_YET = -1;

        private final Chart chart;
        private final Sentence sentence;
        private final Tree tree;
        // Of the open nodes, from the top down: the node, where it is split, its first part's sign, its weights.
        private final int[] openNode;
        private final int[] split;
        private final int[] firstSign;
        private final long[] weight;
        private int open;
        private Grammar grammar;
        private boolean byCost;
        private long number;
        private boolean settled;
        private long leastValue;

        private Finder(Chart chart, Sentence sentence, Tree tree) {
            this.chart = chart;
            this.sentence = sentence;
            this.tree = tree;
            openNode = new int[DEPTH_LIMIT];
            split = new int[DEPTH_LIMIT];
            firstSign = new int[DEPTH_LIMIT];
            weight = new long[DEPTH_LIMIT * SIGN_LIMIT];
        }

        private void find(Grammar told, boolean nearest, long k) {
            grammar = told;
            byCost = nearest;
            number = k;
            tree.size = 0;
            open = 0;
            if (pushNode(grammar.root(), 0, sentence.size)) {
                Arrays.fill(weight, 0, SIGN_LIMIT, byCost ? 0 : 1);
            }
            for (int nodes = 0; nodes < NODE_LIMIT && open > 0; nodes++) {
                choose();
                int node = openNode[open - 1];
                if (tree.by[node] < 0) {
                    closeNodes(grammar.entryCode[-1 - tree.by[node]]);
                } else {
                    openFirstPart();
                }
            }
        }

        private boolean pushNode(int category, int i, int j) {
            if (open >= DEPTH_LIMIT || !tree.addNode(category, i, j, open)) {
                return false;
            }
            openNode[open] = tree.size - 1;
            split[open] = j;
            firstSign[open] = NOT_YET;
            open++;
            return true;
        }

        // By which entry, or which rule and split, the lowest open node is made.
        private void choose() {
            int node = openNode[open - 1];
            int i = tree.from[node];
            int j = tree.to[node];
            int category = tree.code[node] >> FEATURE_BITS;
            settled = false;
            leastValue = FAR;
            if (j == i + 1) {
                tryEntries(category, sentence.words[i]);
            }
            for (int rule = 0; rule < grammar.rules && !settled; rule++) {
                if (grammar.whole[rule] != category) {
                    continue;
                }
                if (grammar.isSingle(rule)) {
                    offer(valueOf(rule, i, j, j), rule, j);
                }
                for (int m = i + 1; m < j && !settled && !grammar.isSingle(rule); m++) {
                    offer(valueOf(rule, i, m, j), rule, m);
                }
            }
        }

        private void tryEntries(int category, long word) {
            for (int entry = 0; entry < grammar.entries && !settled; entry++) {
                int made = grammar.entryCode[entry];
                if (made >> FEATURE_BITS == category && grammar.entryWord[entry] == word) {
                    offer(weightOf(made), -1 - entry, 0);
                }
            }
        }

        private void offer(long value, int by, int m) {
            if (byCost) {
                if (value < leastValue) {
                    leastValue = value;
                    take(by, m);
                }
            } else if (number < value) {
                settled = true;
                take(by, m);
            } else {
                number -= value;
            }
        }

        private void take(int by, int m) {
            tree.by[openNode[open - 1]] = by;
            split[open - 1] = m;
        }

        private long valueOf(int rule, int i, int m, int j) {
            int left = cellOf(i, m);
            long value = nothing();
            int stop = chart.behindLast(left, grammar.first[rule]);
            for (int a = chart.firstOf(left, grammar.first[rule]); a < stop; a++) {
                value = eitherOf(value, bothOf(worthOf(a), weightOfFirst(rule, a, m, j)));
            }
            return value;
        }

        // What sign a of the first part is worth to the lowest open node, with all that its second part may be.
        private long weightOfFirst(int rule, int a, int m, int j) {
            if (grammar.isSingle(rule)) {
                return weightOf(grammar.join(rule, chart.code[a], 0));
            }
            int right = cellOf(m, j);
            long total = nothing();
            int stop = chart.behindLast(right, grammar.second[rule]);
            for (int b = chart.firstOf(right, grammar.second[rule]); b < stop; b++) {
                long onward = weightOf(grammar.join(rule, chart.code[a], chart.code[b]));
                total = eitherOf(total, bothOf(worthOf(b), onward));
            }
            return total;
        }

        private long weightOf(int sign) {
            if (sign < 0) {
                return nothing();
            }
            int node = openNode[open - 1];
            int cell = cellOf(tree.from[node], tree.to[node]);
            int at = chart.placeOf(cell, sign) - cell * SIGN_LIMIT;
            return at < chart.size[cell] ? weight[(open - 1) * SIGN_LIMIT + at] : nothing();
        }

        private void openFirstPart() {
            int node = openNode[open - 1];
            int rule = tree.by[node];
            int i = tree.from[node];
            int j = tree.to[node];
            int m = split[open - 1];
            int part = grammar.first[rule];
            int cell = cellOf(i, m);
            int shift = open * SIGN_LIMIT - cell * SIGN_LIMIT;
            int stop = open < DEPTH_LIMIT ? chart.behindLast(cell, part) : 0;
            for (int a = chart.firstOf(cell, part); a < stop; a++) {
                weight[a + shift] = weightOfFirst(rule, a, m, j);
            }
            pushNode(part, i, m);
        }

        private void openSecondPart(int sign) {
            int node = openNode[open - 1];
            int rule = tree.by[node];
            int j = tree.to[node];
            int m = split[open - 1];
            firstSign[open - 1] = sign;
            int part = grammar.second[rule];
            int cell = cellOf(m, j);
            int shift = open * SIGN_LIMIT - cell * SIGN_LIMIT;
            int stop = open < DEPTH_LIMIT ? chart.behindLast(cell, part) : 0;
            for (int b = chart.firstOf(cell, part); b < stop; b++) {
                weight[b + shift] = weightOf(grammar.join(rule, sign, chart.code[b]));
            }
            pushNode(part, m, j);
        }

        // The lowest open node has got this sign: closes it and all whose last part ends with it.
        private void closeNodes(int made) {
            int sign = made;
            for (int closed = 0; closed < DEPTH_LIMIT && open > 0; closed++) {
                tree.code[openNode[open - 1]] = sign;
                open--;
                if (open == 0) {
                    return;
                }
                int rule = tree.by[openNode[open - 1]];
                if (grammar.isSingle(rule)) {
                    sign = grammar.join(rule, sign, 0);
                } else if (firstSign[open - 1] == NOT_YET) {
                    openSecondPart(sign);
                    return;
                } else {
                    sign = grammar.join(rule, firstSign[open - 1], sign);
                }
            }
        }

        private long worthOf(int at) {
            return byCost ? chart.cost[at] : chart.ways[at];
        }

        private long nothing() {
            return byCost ? FAR : 0;
        }

        private long bothOf(long a, long b) {
            if (!byCost) {
                return productOf(a, b);
            }
            return a >= FAR || b >= FAR ? FAR : a + b;
        }

        private long eitherOf(long a, long b) {
            return byCost ? Math.min(a, b) : sumOf(a, b);
        }
    }
}
