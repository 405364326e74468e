/** A test of its own for each sentence on the tape and on grammars that names a boundary case. */
public final class TreeSchoolGrammarEdges extends Bench {
    private static final String[] KEYS = {"word", "rule", "agree", "is"};

    private static boolean isBlank(int c) {
        return c == 32 || c == 10;
    }

    private static boolean isSmall(int c) {
        return c >= 'a' && c <= 'z';
    }

    private static boolean isDigit(int c) {
        return c >= '0' && c <= '9';
    }

    private static String categories(int n) {
        StringBuilder s = new StringBuilder();
        for (int c = 0; c < n; c++) {
            s.append("word w ").append((char) ('a' + c)).append(';');
        }
        return s.toString();
    }

    private static void dueItems(String text, int items) {
        dueGrammar(new TreeSchool(), text, 0, items);
    }

    // Promises 1 to 3.

    private static void newObject() {
        tested = "No GRAMMAR, no sentence, an empty tape, OUT, DRAWING; no TREE at hand.";
        TreeSchool x = new TreeSchool();
        String now = portrait(x);
        due("an empty portrait", now.equals("counts 0 0 0 0 0 0 0 0 fault 0 trees 0 slips -1 held -1 out "), true);
        due("name(0)", x.name(0), -1);
        due("mark()", x.mark(), -1);
        due("tree(0)", x.tree(0), -1);
        due("wipe()", x.wipe(), 0);
        due("end(0)", x.end(0), true);
        due("signs(0, 1)", x.signs(0, 1), -1);
        dueNoOctet(x, 0);
        dueNoNode(x, 0, 0);
        dueCategory(x, "a", -1);
        dueBracket(x, "a", 0, 1, false);
        dueRead(x, "a", -1);
        dueSame("a new object", x, now);
        due("grammar() of an empty tape", new TreeSchool().grammar(), -1);
    }

    private static void objectsStandApart() {
        tested = "No GRAMMAR, no sentence, .. (a second object)";
        TreeSchool x = with(TOY, "the dog barks");
        x.tree(0);
        x.name(4);
        String before = portrait(x);
        TreeSchool y = new TreeSchool();
        dueCounts(y, 0, 0, 0, 0, 0, 0, 0, 0);
        dueGrammar(y, "word the q;rule q=q q;", 0, 2);
        dueRead(y, "the the", 1);
        dueSame("the first object", x, before);
    }

    private static void feedHighestFirst() {
        tested = "Twenty bytes come behind the tape, of each number the highest first";
        TreeSchool x = with("word a abcdefghij;word a klmnopqrst;");
        due("feed", x.feed(0x20202020, 0x20616263, 0x64656667, 0x68696a20, 0x20202020), 20);
        due("category()", x.category(), 0);
        due("feed", x.feed(0x0a0a0a0a, 0x0a0a0a6b, 0x6c6d6e6f, 0x70717273, 0x740a0a0a), 20);
        due("category()", x.category(), 1);
        due("feed", x.feed(0x20202020, 0x20202020, 0x20202020, 0x20202020, 0x6b6c6d6e), 20);
        due("feed", x.feed(0x6f707172, 0x73742020, 0x20202020, 0x20202020, 0x20202020), 40);
        due("category()", x.category(), 1);
        // Numbers below 0 have bytes above 127, which stand in no name.
        due("feed", x.feed(-1, Integer.MIN_VALUE, -2, 0xe1616263, 0x80808080), 20);
        due("grammar()", x.grammar(), -1);
    }

    private static void feedUpTo1540() {
        tested = "NONE, and none come, if it would have more than 1540.";
        TreeSchool x = with(TOY);
        for (int n = 20; n <= 1540; n += 20) {
            due("feed", x.feed(0x20202020, 0x20202020, 0x20202020, 0x20202020, 0x20202020), n);
        }
        due("feed of a full tape", x.feed(0x6e702020, 0x20202020, 0x20202020, 0x20202020, 0x20202020), -1);
        due("bytes", x.count(6), 1540);
        due("end(1520)", x.end(1520), true);
        due("the last twenty", x.feed(0x20202020, 0x20202020, 0x20202020, 0x20202020, 0x20206e70), 1540);
        due("feed of a full tape", x.feed(0x64642020, 0x20202020, 0x20202020, 0x20202020, 0x20202020), -1);
        due("category() of 1540 bytes", x.category(), 4);
        due("bytes", x.count(6), 0);
        due("feed of an empty tape", x.feed(0, 0, 0, 0, 0), 20);
    }

    private static void feedBehindAnOddEnd() {
        tested = "NONE, and none come, if it would have more than 1540. (1519 to 1522 bytes)";
        for (int size = 1519; size <= 1522; size++) {
            TreeSchool x = with(TOY);
            for (int n = 0; n < 77; n++) {
                x.feed(0x20202020, 0x20202020, 0x20202020, 0x20202020, 0x20202020);
            }
            due("end(" + size + ")", x.end(size), true);
            int answer = x.feed(0x6e702020, 0x20202020, 0x20202020, 0x20202020, 0x20202020);
            due("feed behind " + size, answer, size <= 1520 ? size + 20 : -1);
            due("bytes", x.count(6), size <= 1520 ? size + 20 : size);
            due("category()", x.category(), size <= 1520 ? 4 : -1);
        }
    }

    private static void endKeepsTheFirst() {
        tested = "The tape has its first n bytes alone: true";
        TreeSchool x = with(TOY);
        tell(x, "npd");
        due("end(3)", x.end(3), true);
        due("bytes", x.count(6), 3);
        due("end(2)", x.end(2), true);
        due("category()", x.category(), 4);
        tell(x, "nnp");
        due("end(1)", x.end(1), true);
        due("category()", x.category(), 1);
        tell(x, "np");
        due("end(0)", x.end(0), true);
        due("bytes", x.count(6), 0);
        due("end(0) of an empty tape", x.end(0), true);
        due("category()", x.category(), -1);
        // What was cut is gone: new bytes come in its place.
        tell(x, "npdd");
        x.end(1);
        tell(x, "p");
        due("category()", x.category(), 4);
    }

    private static void endRefuses() {
        tested = "false, if it has not so many, or n is below 0.";
        TreeSchool x = with(TOY);
        int[] none = {1, -1, 20, Integer.MAX_VALUE, Integer.MIN_VALUE};
        for (int n : none) {
            due("end(" + n + ") of an empty tape", x.end(n), false);
        }
        tell(x, "  np");
        int[] alsoNone = {5, 20, 21, 1540, 1541, -1, -4, Integer.MAX_VALUE, Integer.MIN_VALUE};
        for (int n : alsoNone) {
            due("end(" + n + ") of four bytes", x.end(n), false);
            due("bytes", x.count(6), 4);
        }
        due("category()", x.category(), 4);
    }

    // What a grammar is made of.

    private static void textOf1500Bytes() {
        tested = "A GRAMMAR is a text of at most 1500 bytes.";
        String item = "word a b;";
        dueItems(item + " ".repeat(1500 - 9), 1);
        dueItems("\n".repeat(1500 - 9) + item, 1);
        dueItems(" ".repeat(700) + item + "\n".repeat(800 - 9), 1);
        dueFault(item + " ".repeat(1501 - 9), 1, 1500);
        dueFault(" ".repeat(1501 - 9) + item, 1, 1500);
        dueFault(item + "\n".repeat(1540 - 9), 1, 1500);
        StringBuilder full = new StringBuilder();
        for (int n = 0; n < 30; n++) {
            full.append("rule abcdefghij=abcdefghij b;");
        }
        full.append("word a b;".repeat(39)).append("word bcdefghij abcdefghij 0 0 0 0 0 0 0 0 0 0;");
        String text = full.substring(0, full.length() - 1);
        text = text + " 0 0".repeat((1500 - text.length() - 1) / 4);
        text = text + " ".repeat(1500 - text.length() - 1) + ";";
        due("the full text's length", text.length(), 1500);
        dueItems(text, 70);
        dueFault(text + ";", 1, 1500);
    }

    private static void blanks() {
        tested = "TOKENS, with blanks (32, 10) between them or not";
        dueItems("word a b 0 1;rule a=b c agree 0 1 2;", 2);
        dueItems(" \n word\n\na  b\n0 \n1 ; rule\na =\nb\nc\nagree\n0\n1\n2\n;\n ", 2);
        dueItems("word a b;word a b;", 2);
        for (int c = 0; c < 256; c++) {
            String text = "word a" + (char) c + "b c;";
            if (isBlank(c)) {
                dueFault(text, 1, 9);
            } else if (isSmall(c)) {
                dueItems(text, 1);
            } else {
                dueFault(text, 1, isDigit(c) ? 5 : 6);
            }
        }
    }

    private static void bytesOfNames() {
        tested = "NAMES: small letters";
        for (int c = 0; c < 256; c++) {
            String text = "word " + (char) c + " b;";
            if (isSmall(c)) {
                dueItems(text, 1);
            } else {
                dueFault(text, 1, isBlank(c) ? 8 : 5);
            }
        }
    }

    private static void lengthsOfNames() {
        tested = "NAMES: small letters, 1 to 10";
        String letters = "zabcdefghijklmnopqrstuvwxy".repeat(3);
        for (int n = 1; n <= 40; n++) {
            String name = letters.substring(0, n);
            String[] texts = {"word # b;", "word a #;", "rule #=b;", "rule a=#;", "rule a=b #;"};
            for (String text : texts) {
                if (n <= 10) {
                    dueItems(text.replace("#", name), 1);
                } else {
                    dueFault(text.replace("#", name), 1, text.indexOf('#'));
                }
            }
        }
        // Names of ten letters that differ in the first or the last one alone.
        TreeSchool x = with("word abcdefghij aaaaaaaaaa;word a baaaaaaaaa;word a aaaaaaaaab;word a aaaaaaaaa;");
        due("categories", x.count(2), 4);
        dueCategory(x, "baaaaaaaaa", 1);
        dueCategory(x, "aaaaaaaaab", 2);
        dueCategory(x, "aaaaaaaaa", 3);
    }

    private static void bytesOfNumbers() {
        tested = "NUMBERS: one digit";
        for (int c = 0; c < 256; c++) {
            String text = "word a b " + (char) c + " 0;";
            if (c >= '0' && c <= '3') {
                dueItems(text, 1);
            } else if (isBlank(c)) {
                dueFault(text, 1, 12);
            } else if (c == ';') {
                dueFault(text, 1, 11);
            } else {
                dueFault(text, isDigit(c) ? 2 : 1, 9);
            }
        }
        dueFault("word a b 00 0;", 1, 9);
        dueFault("word a b 0 03;", 1, 11);
        dueFault("word a b 0 123456789012;", 1, 11);
        dueFault("word a b 44 0;", 1, 9);
    }

    private static void bytesOfSigns() {
        tested = "SIGNS = and ;";
        for (int c = 0; c < 256; c++) {
            String text = "rule a " + (char) c + " b;";
            if (c == '=') {
                dueItems(text, 1);
            } else {
                dueFault(text, 1, isBlank(c) ? 9 : 7);
            }
            text = "rule a=b c " + (char) c;
            if (c == ';') {
                dueItems(text, 1);
            } else {
                dueFault(text, 1, isBlank(c) ? 12 : 11);
            }
        }
        dueFault("rule a==b;", 1, 7);
        dueFault("word a b;;", 1, 9);
    }

    private static void tokensGoOn() {
        tested = "A NAME, NUMBER goes on as long as small letters and digits do; what is not as told is no TOKEN.";
        dueFault("word a1 b;", 1, 5);
        dueFault("word 1a b;", 1, 5);
        dueFault("word a b 0x 0;", 1, 9);
        dueFault("word a b 0 0x;", 1, 11);
        dueFault("word a b01;", 1, 7);
        dueFault("word a b 0 1word a b;", 1, 11);
        dueFault("word1 a b;", 1, 0);
        dueFault("1word a b;", 1, 0);
        dueFault("worda b;", 1, 0);
        dueFault("word abcdefghij1 b;", 1, 5);
        dueFault("word abcdefghijk1 b;", 1, 5);
        dueFault("rule a=b agree0 0 1;", 1, 9);
        dueFault("rule a=b agree 001;", 1, 15);
        dueFault("rule a=b is 0 01;", 1, 14);
        dueFault("rule1a=b;", 1, 0);
        dueFault("rule a=b1;", 1, 7);
        dueFault("rule a=b cagree 0 0 1;", 1, 16);
        dueItems("rule a=b c;word d c 0 1;rule a=cagree b;", 3);
    }

    private static void keysAreNoNames() {
        tested = "The NAMES word, rule, agree, is are none of these where NAME stands below.";
        for (String key : KEYS) {
            dueFault("word " + key + " b;", 1, 5);
            dueFault("word a " + key + ";", 1, 7);
            dueFault("rule " + key + "=b;", 1, 5);
            dueFault("rule a=" + key + ";", 1, 7);
            boolean law = key.equals("agree") || key.equals("is");
            dueFault("rule a=b " + key + ";", 1, law ? 9 + key.length() : 9);
            dueFault("rule a=b c " + key + ";", 1, law ? 11 + key.length() : 11);
        }
        dueFault("agree 0 0 1;", 1, 0);
        dueFault("is 0 0 1;", 1, 0);
        dueFault("word a b is 0 0 1;", 1, 9);
        String[] near = {"words", "wor", "xword", "rules", "rul", "agreed", "agre", "agreea", "i", "s", "iss", "isis", "si",
            "wordword", "drow", "ruleruleru", "ir"};
        for (String name : near) {
            dueItems("word " + name + " " + name + ";rule " + name + "=" + name + " " + name + ";", 2);
            dueFault(name + " a b;", 1, 0);
        }
    }

    // Items.

    private static void oneItemAtLeast() {
        tested = "TEXT: ITEM { ITEM }.";
        dueFault("", 1, 0);
        dueFault(" ", 1, 1);
        dueFault("\n \n", 1, 3);
        dueFault(" ".repeat(1499), 1, 1499);
        dueFault(" ".repeat(1500), 1, 1500);
        dueItems("word a b;", 1);
        dueItems("rule a=b;", 1);
        dueItems("word a b;".repeat(40) + "rule a=b;".repeat(30), 70);
        dueFault(";", 1, 0);
        dueFault("word a b; ;", 1, 10);
        dueFault("word a b; 1", 1, 10);
        dueFault("word a b; =", 1, 10);
    }

    private static void entries() {
        tested = "ITEM: 'word' NAME NAME { NUMBER NUMBER } ;";
        dueFault("word;", 1, 4);
        dueFault("word a;", 1, 6);
        dueItems("word a b;", 1);
        dueFault("word a b c;", 1, 9);
        dueFault("word a b 0;", 1, 10);
        dueItems("word a b 0 0;", 1);
        dueFault("word a b 0 0 0;", 1, 14);
        dueFault("word a b 0 a;", 1, 11);
        dueFault("word a b 0 0 c;", 1, 13);
        dueFault("word a b=c;", 1, 8);
        dueItems("word a b" + " 3 3".repeat(300) + ";", 1);
        dueFault("word a b" + " 3 3".repeat(300) + " 3;", 1, 1210);
    }

    private static void featuresAndValues() {
        tested = "FEATURES (0 to 3) with their VALUES (0 to 3; of one told twice the last one counts)";
        for (int f = 0; f < 4; f++) {
            for (int v = 0; v < 4; v++) {
                TreeSchool x = with("word a b " + f + " " + v + ";rule b=b b;", "a");
                due("signs(0, 1)", x.signs(0, 1), 1);
                for (int what = 1; what <= 4; what++) {
                    due("value of feature " + (what - 1), x.sign(0, 1, 0, what), what == f + 1 ? v : -1);
                }
                x = with("word a b " + f + " " + (3 - v) + " " + f + " " + v + ";rule b=b b;", "a");
                due("signs(0, 1)", x.signs(0, 1), 1);
                due("told twice", x.sign(0, 1, 0, f + 1), v);
            }
        }
        TreeSchool x = with("word a b 3 3 0 3 3 0 0 0 3 2;rule b=b b;", "a");
        dueSign(x, 0, 1, 0, 0, 0, -1, -1, 2);
    }

    private static void parts() {
        tested = "'rule' NAME = NAME [ NAME ] { LAW } ;   a RULE: a CATEGORY and its one or two PARTS.";
        dueFault("rule;", 1, 4);
        dueFault("rule a;", 1, 6);
        dueFault("rule =b;", 1, 5);
        dueFault("rule a=;", 1, 7);
        dueItems("rule a=b;", 1);
        dueItems("rule a=b c;", 1);
        dueItems("rule a=a a;", 1);
        dueFault("rule a=b c d;", 1, 11);
        dueFault("rule a=b=c;", 1, 8);
        dueFault("rule a b;", 1, 7);
        dueFault("rule a=b", 1, 8);
        dueFault("rule a=b c", 1, 10);
        dueFault("rule a=b 0;", 1, 9);
        dueFault("rule 0=b;", 1, 5);
    }

    private static void laws() {
        tested = "LAW: 'agree' NUMBER NUMBER NUMBER .. | 'is' NUMBER NUMBER NUMBER";
        for (String key : new String[] {"agree", "is"}) {
            String start = "rule a=b " + key;
            int n = start.length();
            dueFault(start + ";", 1, n);
            dueFault(start + " 0;", 1, n + 2);
            dueFault(start + " 0 0;", 1, n + 4);
            dueItems(start + " 0 0 1;", 1);
            dueFault(start + " 0 0 1 1;", 1, n + 7);
            dueFault(start + " 0 0 1 c;", 1, n + 7);
            dueFault(start + " 0 0 c;", 1, n + 5);
            dueFault(start + " 0 is;", 1, n + 3);
            dueFault(start, 1, n);
        }
        dueFault("rule a=is 0 0 1;", 1, 7);
        dueFault("rule a=b c is 0 0 1 d;", 1, 20);
    }

    private static void slots() {
        tested = "SLOTS: 0 the whole, 1, 2 the PARTS.";
        String two = "word a x 0 1;word b y 0 2;rule s=x y ";
        TreeSchool x = with(two + "agree 0 0 1;", "a b");
        due("value of the whole", x.sign(0, 2, 0, 1), 1);
        x = with(two + "agree 0 0 2;", "a b");
        due("value of the whole", x.sign(0, 2, 0, 1), 2);
        x = with(two + "agree 0 2 0;", "a b");
        due("value of the whole", x.sign(0, 2, 0, 1), 2);
        x = with(two + "is 0 0 3;", "a b");
        due("value of the whole", x.sign(0, 2, 0, 1), 3);
        dueRead(with(two + "is 0 1 1 is 0 2 2;"), "a b", 1);
        dueRead(with(two + "is 0 1 2;"), "a b", 0);
        dueRead(with(two + "is 0 2 1;"), "a b", 0);
        dueRead(with(two + "agree 0 1 2;"), "a b", 0);
        // Category 0 may be either part, or both.
        dueRead(with("word b y 0 2;word a x 0 1;rule s=x y agree 0 0 2 agree 0 0 1;"), "a b", 0);
        dueRead(with("word b y 0 2;word a x 0 1;rule s=x y agree 0 0 2 is 0 2 2;"), "a b", 1);
        dueRead(with("word b y 0 2;word a x 0 1;rule y=y y agree 0 2 1 is 0 2 2;"), "b b", 1);
    }

    private static void numbering() {
        tested = "ENTRIES and RULES are numbered from 0 on, each by itself; CATEGORIES, too, as they come first in the text.";
        TreeSchool x = with("rule s=q;word p z;word o q;rule q=t;word o t;rule t=s s;");
        dueCounts(x, 3, 3, 4);
        String[] names = {"s", "q", "z", "t"};
        for (int c = 0; c < 4; c++) {
            dueCategory(x, names[c], c);
            due("name(" + c + ")", x.name(c), 1);
            due("its letter", x.octet(0), names[c].charAt(0));
        }
        dueCategory(x, "p", -1);
        dueCategory(x, "o", -1);
        dueRead(x, "o", 1);
        due("trees()", x.trees(), 2);
        due("tree(0)", x.tree(0), 2);
        due("rule", x.node(0, 3), 0);
        due("entry", x.node(1, 3), -2);
        due("tree(1)", x.tree(1), 3);
        due("rule", x.node(1, 3), 1);
        due("entry", x.node(2, 3), -3);
        // A new grammar is numbered from 0 on again.
        dueGrammar(x, "word o t;rule q=s t;", 0, 2);
        dueCounts(x, 1, 1, 3);
        dueCategory(x, "t", 0);
        dueCategory(x, "q", 1);
        dueCategory(x, "s", 2);
        dueCategory(x, "z", -1);
        due("name(3)", x.name(3), -1);
    }

    // Faults.

    private static void firstFault() {
        tested = "FAULTS, the first along the text";
        dueFault("word a b 4 0;word A", 2, 9);
        dueFault("word a b.;word a b 4 0;", 1, 8);
        dueFault("word a b 4 44;", 2, 9);
        dueFault("word a b 0 9 9 9;", 2, 11);
        dueFault("rule a=b agree 4 5 5;", 2, 15);
        dueFault("rule a=b agree 0 5 5;", 2, 17);
        dueFault("rule a=b agree 0 1 1", 2, 19);
        dueFault("word a b;".repeat(40) + "word .", 3, 360);
        dueFault("word a b;".repeat(40) + ". word a b;", 1, 360);
        dueFault(categories(16) + "rule q=r 9", 3, 149);
        dueFault(categories(15) + "rule p=q 9", 3, 142);
        dueFault("rule a=a;rule b=c is 9 0 0;", 2, 21);
    }

    private static void leastFaultOfAToken() {
        tested = "of one TOKEN the least";
        String forty = "word a b;".repeat(40);
        dueFault(forty + "rule a=b word;", 1, 369);
        dueFault(forty + "rule word=b;", 1, 365);
        String thirty = "rule a=b;".repeat(30);
        dueFault(thirty + "word a rule", 1, 277);
        dueFault(thirty + "word rule", 1, 275);
        String eight = " is 0 0 0".repeat(8);
        dueFault("rule a=b" + eight.substring(0, eight.length() - 2) + " agree", 1, 79);
        dueFault("rule a=b" + eight + "; is 0 0 0;", 1, 82);
        String sixteen = categories(16);
        dueFault(sixteen + "rule a=b c q;", 1, 155);
        dueFault(sixteen + "word a b q;", 1, 153);
        dueFault(sixteen + "q", 1, 144);
        dueFault("rule a=b 9;", 1, 9);
        dueFault("word 9 b;", 1, 5);
        dueFault("9", 1, 0);
        dueFault("word a b 9x", 1, 9);
        dueFault("word a b 99", 1, 9);
        dueFault(sixteen + "word a qrstuvwxyza;", 1, 151);
    }

    private static void faultAtTheEnd() {
        tested = "1 no TOKEN, or one that can't come (at it; the end: how many bytes there are;";
        String item = "word a b 0 1; rule a = b c agree 0 1 2 is 0 0 1;";
        for (int n = 0; n < item.length(); n++) {
            // A key that is cut is another name, which can't come.
            boolean cutKey = item.substring(0, n).matches(".*\\b(w|wo|wor|r|ru|rul|c a|ag|agr|agre|i)");
            if (n == 13 || n == 14) {
                dueItems(item.substring(0, n), 1);
            } else {
                dueFault(item.substring(0, n), 1, cutKey ? item.lastIndexOf(' ', n - 1) + 1 : n);
            }
        }
        dueItems(item, 2);
        dueFault("word  \n ", 1, 8);
        dueFault("word a b \n", 1, 10);
        dueFault("rule a=b" + " ".repeat(1492), 1, 1500);
        dueFault("rule a=b" + " ".repeat(1491), 1, 1499);
        // Bytes that were cut off are not looked at.
        TreeSchool x = new TreeSchool();
        tell(x, "word a b;word a b;");
        x.end(8);
        due("grammar()", x.grammar(), -9);
        tell(x, "word a b;x");
        x.end(9);
        due("grammar()", x.grammar(), 1);
        tell(x, "word abcdefghijk b;");
        x.end(15);
        tell(x, " b;");
        due("grammar()", x.grammar(), 1);
        tell(x, "word a bcd");
        x.end(8);
        due("grammar() of a name that is cut", x.grammar(), -9);
        tell(x, "word a b 011");
        x.end(10);
        due("grammar() of a number that is cut", x.grammar(), -11);
        dueFault("z".repeat(1540), 1, 0);
        dueFault(" ".repeat(1499) + "9".repeat(41), 1, 1499);
    }

    private static void faultAt1500() {
        tested = "1500, if there are more and no FAULT is ahead";
        String item = "word a b;";
        for (int size = 1499; size <= 1540; size++) {
            if (size <= 1500) {
                dueItems(item + " ".repeat(size - 9), 1);
            } else {
                dueFault(item + " ".repeat(size - 9), 1, 1500);
                dueFault(" ".repeat(size), 1, 1500);
                dueFault(" ".repeat(size - 9) + item, 1, 1500);
                dueFault("word" + " ".repeat(size - 4), 1, 1500);
                dueFault("word a b 9" + " ".repeat(size - 10), 2, 9);
                dueFault("rule a=a;" + " ".repeat(size - 9), 1, 1500);
            }
        }
        dueFault(item + " ".repeat(1490) + "." + " ".repeat(10), 1, 1499);
        dueFault(item + " ".repeat(1491) + "." + " ".repeat(10), 1, 1500);
        dueFault(item + " ".repeat(1492) + "." + " ".repeat(10), 1, 1500);
        dueFault(item + " ".repeat(1490) + "x" + " ".repeat(10), 1, 1499);
        dueFault(item + " ".repeat(1490) + ".", 1, 1499);
        dueFault(item.repeat(40) + " ".repeat(1139) + "word", 3, 1499);
        dueFault(item.repeat(40) + " ".repeat(1140) + "word", 1, 1500);
    }

    private static void tokensAheadOf1500() {
        tested = "TOKENS that begin ahead of it are read whole";
        String blanks = " ".repeat(1494);
        dueFault(blanks + " word a b;", 1, 1500);
        dueFault(blanks + " words a b;", 1, 1495);
        dueFault(blanks.substring(4) + "word abcdefghij b;", 1, 1500);
        dueFault(blanks.substring(4) + "word abcdefghijk b;", 1, 1495);
        dueFault(blanks.substring(4) + "word abcdefghij0 b;", 1, 1495);
        dueFault(blanks + "     0", 1, 1499);
        dueFault("word a b" + " ".repeat(1491) + "44;", 1, 1499);
        dueFault("word a b" + " ".repeat(1491) + "4 4;", 2, 1499);
        dueFault("word a b" + " ".repeat(1491) + "3 4;", 1, 1500);
        dueFault("word a b" + " ".repeat(1492) + "4 4;", 1, 1500);
        dueFault(categories(16) + " ".repeat(1348) + "word a q;", 3, 1499);
        dueFault(categories(16) + " ".repeat(1349) + "word a q;", 1, 1500);
        dueFault(categories(16) + " ".repeat(1348) + "word a pq;", 3, 1499);
        dueFault(" ".repeat(1496) + "word", 1, 1500);
        dueFault(" ".repeat(1497) + "word", 1, 1500);
        dueFault(" ".repeat(1499) + "worda", 1, 1499);
        dueFault(" ".repeat(1499) + "word", 1, 1500);
        dueFault(" ".repeat(1500) + "worda", 1, 1500);
        dueFault("word a b" + " ".repeat(1491) + ";;", 1, 1500);
    }

    private static void wrongFeatures() {
        tested = "2 a NUMBER that is not as told (a FEATURE, VALUE above 3, ..: at it)";
        for (int d = 0; d <= 9; d++) {
            String[] texts = {"word a b # 0;", "word a b 0 #;", "word a b 0 0 # 0;", "word a b 0 0 0 #;", "rule a=b agree # 0 1;",
                "rule a=b is # 0 1;", "rule a=b is 0 0 #;", "rule a=b c is 0 2 #;", "rule a=b is 0 0 0 is 0 0 #;"};
            for (String text : texts) {
                if (d <= 3) {
                    dueItems(text.replace('#', (char) ('0' + d)), 1);
                } else {
                    dueFault(text.replace('#', (char) ('0' + d)), 2, text.indexOf('#'));
                }
            }
        }
    }

    private static void wrongSlots() {
        tested = "2 .. a SLOT above how many PARTS there are";
        for (int d = 0; d <= 9; d++) {
            dueSlot("rule a=b is 0 # 0;", d, 1, -1);
            dueSlot("rule a=b c is 0 # 0;", d, 2, -1);
            dueSlot("rule a=b agree 0 # 0;", d, 1, -1);
            dueSlot("rule a=b agree 0 # 1;", d, 1, -1);
            dueSlot("rule a=b c agree 0 # 0;", d, 2, -1);
            dueSlot("rule a=b agree 0 0 #;", d, 1, 0);
            dueSlot("rule a=b agree 0 1 #;", d, 1, 1);
            dueSlot("rule a=b c agree 0 0 #;", d, 2, 0);
            dueSlot("rule a=b c agree 0 1 #;", d, 2, 1);
            dueSlot("rule a=b c agree 0 2 #;", d, 2, 2);
        }
    }

    private static void dueSlot(String text, int slot, int highest, int first) {
        String told = text.replace('#', (char) ('0' + slot));
        int place = text.indexOf('#');
        // The second slot, which stands behind the first.
        int second = text.lastIndexOf(' ') + 1;
        boolean alike = text.contains("agree") && place < second && told.charAt(place) == told.charAt(second);
        if (slot > highest || slot == first) {
            dueFault(told, 2, place);
        } else if (alike) {
            dueFault(told, 2, second);
        } else {
            dueItems(told, 1);
        }
    }

    private static void slotsAlike() {
        tested = "2 .. the second SLOT of agree like the first: at it";
        dueFault("rule a=b agree 0 0 0;", 2, 19);
        dueFault("rule a=b agree 0 1 1;", 2, 19);
        dueFault("rule a=b c agree 3 2 2;", 2, 21);
        // Slot and value of is, feature and slot of agree may be alike.
        dueItems("rule a=b is 0 0 0 is 1 1 1 agree 0 0 1 agree 1 1 0;", 1);
        dueFault("rule a=b agree 0 0 1 agree 0 1 1;", 2, 31);
    }

    private static void slotsAreNumbers() {
        tested = "LAW: 'agree' NUMBER NUMBER NUMBER (no NAME, no SIGN where a SLOT is due)";
        String[] others = {"a", "b", "z", "aa", ";", "=", ".", "is", "agree", "word", "rule"};
        for (String other : others) {
            for (int slot = 0; slot <= 2; slot++) {
                dueFault("rule a=b c agree 0 " + slot + " " + other + ";", 1, 21);
                dueFault("rule a=b c is 0 " + slot + " " + other + ";", 1, 18);
            }
            dueFault("rule a=b c agree 0 " + other + " 1;", 1, 19);
            dueFault("rule a=b c agree " + other + " 0 1;", 1, 17);
        }
    }

    private static void entriesUpTo40() {
        tested = "3 a 41st ENTRY (at 'word')";
        for (int n = 38; n <= 40; n++) {
            dueItems("word a b;".repeat(n), n);
            dueItems("word a b;".repeat(n) + "rule a=b;", n + 1);
        }
        dueFault("word a b;".repeat(41), 3, 360);
        dueFault("word a b;".repeat(40) + " \nword", 3, 362);
        dueFault("rule a=b;" + "word a b;".repeat(20) + "rule a=b;" + "word a b;".repeat(21), 3, 378);
    }

    private static void rulesUpTo30() {
        tested = "3 .. a 31st RULE (at 'rule')";
        for (int n = 28; n <= 30; n++) {
            dueItems("rule a=b;".repeat(n), n);
            dueItems("rule a=b;".repeat(n) + "word a b;", n + 1);
        }
        dueFault("rule a=b;".repeat(31), 3, 270);
        dueFault("rule a=b;".repeat(30) + "\nrule", 3, 271);
        dueFault("rule a=b;".repeat(10) + "word a b;" + "rule a=b c;".repeat(21), 3, 319);
    }

    private static void thirtiethRuleCounts() {
        tested = "3 .. a 31st RULE (the 30th one is still a RULE, with its LAWS)";
        TreeSchool x = with("rule s=t is 3 1 3;".repeat(29) + "rule s=t agree 3 0 1 agree 0 0 1;word a t 0 3 3 0;word b t;");
        dueRead(x, "a", 1);
        due("tree(0)", x.tree(0), 2);
        dueNode(x, 0, 0, 0, 1, 29, 0, 3, -1, -1, 0);
        dueRead(x, "b", 1);
        due("trees()", x.trees(), 30);
        x = with("rule s=t u is 3 1 3;".repeat(29) + "rule s=t u agree 3 2 1 agree 3 0 2;word a t 3 2;word b u;");
        dueRead(x, "a b", 1);
        due("tree(0)", x.tree(0), 3);
        dueNode(x, 0, 0, 0, 2, 29, 0, -1, -1, -1, 2);
    }

    private static void fortiethEntryCounts() {
        tested = "3 a 41st ENTRY (the 40th one is still an ENTRY)";
        TreeSchool x = with("word a b;".repeat(39) + "word c d 1 2;rule d=b b;", "c");
        due("tree(0)", x.tree(0), 1);
        dueNode(x, 0, 1, 0, 1, -40, 0, -1, 2, -1, -1);
    }

    private static void lawsUpToEight() {
        tested = "3 .. a ninth LAW of a RULE (at its NAME)";
        String agree = " agree 0 0 1";
        String is = " is 0 0 1";
        for (int n = 0; n <= 8; n++) {
            dueItems("rule a=b" + agree.repeat(n) + ";", 1);
            dueItems("rule a=b c" + is.repeat(n) + ";", 1);
            dueItems("rule a=b c" + is.repeat(n) + agree.repeat(8 - n) + ";", 1);
        }
        dueFault("rule a=b" + agree.repeat(9) + ";", 3, 105);
        dueFault("rule a=b" + is.repeat(9) + ";", 3, 81);
        dueFault("rule a=b" + is.repeat(8) + " is", 3, 81);
        dueFault("rule a=b" + is.repeat(8) + " agree 7;", 3, 81);
        // What is no law behind the eighth is no ninth law.
        String[] others = {"", " ", " .", " isa", " 1", " c", " =", " word", " rule", " abcdefghijk", " 12", " is1"};
        for (String other : others) {
            dueFault("rule a=b" + is.repeat(8) + other, 1, other.length() < 2 ? 80 + other.length() : 81);
            dueFault("rule a=b c" + agree.repeat(8) + other, 1, other.length() < 2 ? 106 + other.length() : 107);
        }
        dueItems(("rule a=b" + is.repeat(8) + ";").repeat(3), 3);
        dueFault(("rule a=b" + is.repeat(8) + ";").repeat(2) + "rule a=b" + is.repeat(9) + ";", 3, 243);
    }

    private static void eighthLawCounts() {
        tested = "3 .. a ninth LAW (the eighth one is still a LAW)";
        String seven = " is 1 0 1".repeat(7);
        TreeSchool x = with("word a b;rule s=b" + seven + " is 2 0 3;", "a");
        dueSign(x, 0, 1, 1, 1, -1, 1, 3, -1);
        dueRead(with("word a b;rule s=b" + seven + " is 1 0 2;"), "a", 0);
    }

    private static void categoriesUpTo16() {
        tested = "3 .. a 17th CATEGORY (at it)";
        for (int n = 1; n <= 16; n++) {
            TreeSchool x = with(categories(n));
            due("categories", x.count(2), n);
        }
        String sixteen = categories(16);
        dueFault(sixteen + "word w q;", 3, 151);
        dueFault(sixteen + "rule q=a;", 3, 149);
        dueFault(sixteen + "rule a=q;", 3, 151);
        dueFault(sixteen + "rule a=b q;", 3, 153);
        dueItems(sixteen + "word q p;word qq a;rule p=a o;", 19);
        // Rules alone tell 16, too; what is a word alone is no category.
        String rules = "rule a=b c;rule d=e f;rule g=h i;rule j=k l;rule m=n o;";
        dueItems(rules + "rule p=a a;", 6);
        dueFault(rules + "rule p=q a;", 3, 62);
        dueFault(rules + "rule a=p q;", 3, 64);
        TreeSchool x = with(sixteen + "rule p=a a;");
        due("name(15)", x.name(15), 1);
        dueOut(x, "p");
        due("name(16)", x.name(16), -1);
        dueCategory(x, "p", 15);
        dueRead(x, "w w", 1);
        due("category of the top", x.sign(0, 2, 0, 0), 15);
        due("signs(0, 1)", x.signs(0, 1), 16);
    }

    private static void loopIsLast() {
        tested = "Else 4";
        dueFault("rule a=a;", 4, 0);
        dueFault("rule a=a;.", 1, 9);
        dueFault("rule a=a;word a b 4 0;", 2, 18);
        dueFault("rule a=a;".repeat(31), 3, 270);
        dueFault("rule a=a;".repeat(30), 4, 0);
        dueFault("rule a=a;" + " ".repeat(1491), 4, 0);
        dueFault("rule a=a;" + " ".repeat(1492), 1, 1500);
        dueFault("rule a=b;rule b=a", 1, 17);
        dueFault("rule a=b;rule b=a;", 4, 0);
    }

    private static void loops() {
        tested = "4: RULES of one PART that lead from a CATEGORY, by way of their PARTS, back to it";
        StringBuilder chain = new StringBuilder();
        for (char c = 'a'; c < 'p'; c++) {
            chain.append("rule ").append(c).append('=').append((char) (c + 1)).append(';');
        }
        // All 16 categories in one chain, which each rule in turn closes.
        dueItems(chain.toString(), 15);
        for (char c = 'a'; c <= 'p'; c++) {
            dueFault(chain + "rule p=" + c + ";", 4, 9 * (c - 'a'));
        }
        StringBuilder up = new StringBuilder();
        for (char c = 'p'; c > 'a'; c--) {
            up.append("rule ").append((char) (c - 1)).append('=').append(c).append(';');
        }
        dueItems(up.toString(), 15);
        dueFault(up + "rule p=a;", 4, 0);
        dueFault(up + "rule b=a;", 4, 126);
        // Two ways to the same category are no loop, nor is a rule told twice.
        dueItems("rule a=b;rule a=c;rule b=d;rule c=d;rule a=d;rule a=b;", 6);
        // Laws that nothing can keep do not open a loop.
        dueFault("rule a=b is 0 1 0 is 0 1 1;rule b=a;", 4, 0);
        // Rules of two parts lead nowhere, by neither part.
        dueItems("rule a=b;rule b=a c;rule b=c a;rule c=c c;", 4);
    }

    private static void placeOfALoop() {
        tested = "(at 'rule' of the first RULE from whose PART one comes so to its CATEGORY, or whose PART it is)";
        dueFault("rule z=y;rule y=a;rule a=b;rule b=a;", 4, 18);
        dueFault("rule a=b;rule c=c;", 4, 9);
        dueFault("rule b=a;rule c=c;rule a=b;", 4, 0);
        dueFault("rule a=z;rule b=a;rule a=b;rule c=c;", 4, 9);
        dueFault("  word q a;\nrule a=b;rule b=b;", 4, 21);
        dueFault("rule a=a a;rule a=b;rule b=c;rule c=b;", 4, 20);
        dueFault("rule b=c a;rule b=c;rule c=b;", 4, 11);
        dueFault("rule a=b;rule b=c;rule b=d;rule d=b;", 4, 18);
    }

    private static void loopsOfAnyNumbers() {
        tested = "the first RULE from whose PART one comes so to its CATEGORY (whatever their numbers are)";
        for (int order = 0; order < 256; order++) {
            int[] c = {order & 3, order >> 2 & 3, order >> 4 & 3, order >> 6 & 3};
            if ((1 << c[0] | 1 << c[1] | 1 << c[2] | 1 << c[3]) != 15) {
                continue;
            }
            // Categories a to d come in this order; the rules lead round, z comes into the ring.
            StringBuilder words = new StringBuilder();
            for (int n = 0; n < 4; n++) {
                words.append("word w ").append((char) ('a' + c[n])).append(';');
            }
            dueFault(words + "rule z=a;rule a=b;rule b=c;rule c=d;rule d=a;", 4, 45);
            dueFault(words + "rule z=a;rule c=d;rule a=b;rule d=a;rule b=c;", 4, 45);
            dueFault(words + "rule a=b;rule b=c;rule c=d;rule d=c;", 4, 54);
            dueItems(words + "rule a=b;rule b=c;rule c=d;rule a=d;", 8);
        }
    }

    // Promises 4 and 5.

    private static void grammarCountsItems() {
        tested = "The tape (empty then, here and below) is the GRAMMAR: how many ITEMS (no sentence, DRAWING, TREE at hand then)";
        TreeSchool x = with(TOY, "the dog barks");
        x.tree(0);
        x.name(3);
        dueBracket(x, "s", 0, 3, true);
        dueGrammar(x, TOY, 0, 9);
        due("portrait", portrait(x).equals("counts 5 4 6 0 0 0 0 1 fault 0 trees 0 slips -1 held -1 out s"), true);
        dueNoNode(x, 0, 0);
        due("signs(0, 1)", x.signs(0, 1), -1);
        dueNoSign(x, 0, 1, 0, 0);
        dueBracket(x, "s", 0, 1, false);
        due("wipe()", x.wipe(), 0);
        due("tree(0)", x.tree(0), -1);
        due("mark()", x.mark(), -1);
        dueRead(x, "the dog barks", 1);
        due("slips() without the old drawing", x.slips(), 6);
    }

    private static void grammarIsNew() {
        tested = "The tape .. is the GRAMMAR (nothing of those ahead of it is left)";
        TreeSchool x = new TreeSchool();
        String strict = "rule s=t is 0 1 3 is 1 0 1 agree 2 0 1;rule t=s s is 3 0 0 is 2 1 3;word a t;";
        for (int n = 0; n < 4; n++) {
            dueGrammar(x, strict, 0, 3);
            dueGrammar(x, "rule s=t;rule t=s s;word a t 0 0 2 2;word b s 2 1;", 0, 4);
            dueRead(x, "a", 1);
            dueSign(x, 0, 1, 0, 0, -1, -1, -1, -1);
            dueRead(x, "b b", 1);
            dueSign(x, 0, 2, 1, 1, -1, -1, -1, -1);
            // One grammar more, so that each comes behind the strict one by one and by two.
            if (n % 2 == 0) {
                dueGrammar(x, "rule t=s;", 0, 1);
            }
        }
        x = new TreeSchool();
        dueGrammar(x, "rule a=b;rule b=c;", 0, 2);
        dueGrammar(x, "rule b=a;rule c=b;", 0, 2);
        dueGrammar(x, "word w b;rule a=b;rule c=a;", 0, 3);
        dueGrammar(x, "rule a=b;rule b=a;", 4, -1);
        dueGrammar(x, "rule a=b;", 0, 1);
        dueGrammar(x, "rule b=c;rule c=b;", 4, -1);
        dueGrammar(x, "rule a=b;rule a=c;rule a=d;", 0, 3);
        dueCounts(x, 0, 3, 4, 0, 0, 0, 0, 0);
    }

    private static void lawsAreNew() {
        tested = "The tape .. is the GRAMMAR (no LAW of those ahead of it is left)";
        String laws = " is 0 0 3 is 1 0 2 is 2 0 1 is 3 0 0";
        String[] values = {"", " 0 0 1 0 2 0 3 0", " 0 1 1 1 2 1 3 1", " 0 2 1 2 2 2 3 2", " 0 3 1 3 2 3 3 3"};
        for (String first : values) {
            for (String second : values) {
                for (int between = 0; between <= 1; between++) {
                    TreeSchool x = with("rule s=t u" + laws + ";rule t=u" + laws + ";word a t;");
                    if (between == 1) {
                        dueGrammar(x, "word b t;", 0, 1);
                    }
                    dueGrammar(x, "rule s=t u;rule v=t;word a t" + first + ";word b u" + second + ";", 0, 4);
                    dueRead(x, "a b", 1);
                    dueSign(x, 0, 2, 0, 0, -1, -1, -1, -1);
                    dueSign(x, 0, 1, 1, 3, -1, -1, -1, -1);
                }
            }
        }
    }

    private static void grammarRefused() {
        tested = "-1 less the place of its FAULT: all stays.";
        String[] texts = {"", ".", "word a b 9 0;", "word a b;".repeat(41), "rule a=a;", " ".repeat(1540),
            "rule q=r t;word the t;word dog r;word barks r.", categories(16) + "word a q;"};
        int[] places = {0, 0, 9, 360, 0, 1500, 45, 151};
        int[] kinds = {1, 1, 2, 3, 4, 1, 1, 3};
        for (int n = 0; n < texts.length; n++) {
            TreeSchool x = with(TOY, "the dog barks");
            x.tree(0);
            x.name(4);
            dueBracket(x, "vp", 0, 3, true);
            String before = portrait(x).replace("fault 0", "fault " + kinds[n]);
            dueGrammar(x, texts[n], kinds[n], -1 - places[n]);
            dueSame("a fault of kind " + kinds[n], x, before);
            dueCategory(x, "vp", 5);
            due("mark()", x.mark(), 6);
            dueBracket(x, "np", 0, 2, true);
            due("slips()", x.slips(), 6);
            dueRead(x, "the dogs bark", 1);
        }
        TreeSchool x = new TreeSchool();
        dueGrammar(x, "word a b;rule b=b b", 1, -20);
        dueCounts(x, 0, 0, 0, 0, 0, 0, 0, 0);
        dueRead(x, "a", -1);
    }

    private static void kindOfFault() {
        tested = "The kind of the FAULT of the latest grammar(); 0 without one and ahead of any.";
        TreeSchool x = new TreeSchool();
        due("fault()", x.fault(), 0);
        dueRead(x, ".", -1);
        dueCategory(x, ".", -1);
        due("fault()", x.fault(), 0);
        String[] texts = {"rule a=a;", "rule a=b;", "word a b 4 4;", "word a b;".repeat(41), ".", "word a b;", "rule a=a;"};
        int[] kinds = {4, 0, 2, 3, 1, 0, 4};
        int[] answers = {-1, 1, -10, -361, -1, 1, -1};
        for (int n = 0; n < texts.length; n++) {
            dueGrammar(x, texts[n], kinds[n], answers[n]);
            dueRead(x, "a.", -1);
            due("fault() behind read()", x.fault(), kinds[n]);
        }
    }

    public static void main(String[] args) {
        newObject();
        objectsStandApart();
        feedHighestFirst();
        feedUpTo1540();
        feedBehindAnOddEnd();
        endKeepsTheFirst();
        endRefuses();
        textOf1500Bytes();
        blanks();
        bytesOfNames();
        lengthsOfNames();
        bytesOfNumbers();
        bytesOfSigns();
        tokensGoOn();
        keysAreNoNames();
        oneItemAtLeast();
        entries();
        featuresAndValues();
        parts();
        laws();
        slots();
        numbering();
        firstFault();
        leastFaultOfAToken();
        faultAtTheEnd();
        faultAt1500();
        tokensAheadOf1500();
        wrongFeatures();
        wrongSlots();
        slotsAlike();
        slotsAreNumbers();
        entriesUpTo40();
        rulesUpTo30();
        thirtiethRuleCounts();
        fortiethEntryCounts();
        lawsUpToEight();
        eighthLawCounts();
        categoriesUpTo16();
        loopIsLast();
        loops();
        placeOfALoop();
        loopsOfAnyNumbers();
        grammarCountsItems();
        grammarIsNew();
        lawsAreNew();
        grammarRefused();
        kindOfFault();
        finish("tapes and grammars keep their boundaries");
    }
}
