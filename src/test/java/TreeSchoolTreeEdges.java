/** A test of its own for each sentence on sentences, their signs and their trees that names a boundary case. */
public final class TreeSchoolTreeEdges extends Bench {
    private static final String PAIRS = "word a x;rule x=x x;";

    private static TreeSchool inUse() {
        TreeSchool x = with(TOY, "the dog barks");
        x.tree(0);
        x.name(4);
        dueBracket(x, "vp", 0, 3, true);
        return x;
    }

    private static void dueNoSentence(String text) {
        TreeSchool x = inUse();
        String before = portrait(x);
        dueRead(x, text, -1);
        dueSame("read() of [" + text + "]", x, before);
    }

    private static void dueWords(String text, int words) {
        TreeSchool x = inUse();
        dueRead(x, text, 0);
        due("words of [" + text + "]", x.count(3), words);
    }

    // The sentence s of a and b: their entries' features, then the rule's laws; its features, or null for none.
    private static void dueMade(String left, String right, String laws, int... values) {
        TreeSchool x = with("word a x" + left + ";word b y" + right + ";rule s=x y" + laws + ";");
        dueRead(x, "a b", values.length == 0 ? 0 : 1);
        due("signs(0, 2) of" + laws, x.signs(0, 2), values.length == 0 ? 0 : 1);
        for (int f = 0; f < values.length; f++) {
            due("feature " + f + " of" + left + "," + right + "," + laws, x.sign(0, 2, 0, f + 1), values[f]);
        }
    }

    private static String cross(int left, int right) {
        StringBuilder s = new StringBuilder("rule s=x y agree 0 0 1 agree 1 0 1 agree 2 0 2 agree 3 0 2;");
        for (int n = 0; n < left; n++) {
            s.append("word a x 0 ").append(n / 4).append(" 1 ").append(n % 4).append(';');
        }
        for (int n = 0; n < right; n++) {
            s.append("word b y 2 ").append(n / 4).append(" 3 ").append(n % 4).append(';');
        }
        return s.toString();
    }

    // Sentences.

    private static void wordsUpTo14() {
        tested = "SENTENCES: 1 to 14 words";
        for (int n = 1; n <= 14; n++) {
            TreeSchool x = with(PAIRS, "a ".repeat(n));
            due("words", x.count(3), n);
            due("signs of all", x.signs(0, n), 1);
            due("signs beyond", x.signs(0, n + 1), -1);
        }
        dueNoSentence("");
        dueNoSentence(" \n ");
        dueNoSentence("a ".repeat(15));
        dueNoSentence("a ".repeat(14) + "a");
        dueNoSentence("a ".repeat(700));
    }

    private static void wordsAreNames() {
        tested = "words (NAMES, also those four)";
        dueWords("word rule agree is", 4);
        dueWords("is", 1);
        dueWords("abcdefghij", 1);
        dueNoSentence("abcdefghijk");
        dueNoSentence("the dog abcdefghijk");
        dueNoSentence("the dog 1");
        dueNoSentence("dog1");
        dueNoSentence("1dog");
        dueNoSentence("the Dog");
        for (int c = 0; c < 256; c++) {
            boolean small = c >= 'a' && c <= 'z';
            TreeSchool x = with(PAIRS);
            dueRead(x, "" + (char) c, small ? c == 'a' ? 1 : 0 : -1);
        }
    }

    private static void blanksAround() {
        tested = "blanks between and around";
        dueWords("q q", 2);
        dueWords(" q\nq ", 2);
        dueWords("\n\n q \n q \n\n", 2);
        dueWords("qq", 1);
        for (int c = 0; c < 256; c++) {
            boolean small = c >= 'a' && c <= 'z';
            TreeSchool x = with(PAIRS);
            dueRead(x, "a" + (char) c + "a", c == 32 || c == 10 ? 1 : small ? 0 : -1);
            due("words", x.count(3), c == 32 || c == 10 ? 2 : small ? 1 : 0);
        }
    }

    private static void sentenceOf1500Bytes() {
        tested = "in 1500 bytes at most";
        dueWords("q" + " ".repeat(1499), 1);
        dueWords(" ".repeat(1499) + "q", 1);
        dueWords("q" + "\n".repeat(1498) + "q", 2);
        dueNoSentence("q" + " ".repeat(1500));
        dueNoSentence(" ".repeat(1500) + "q");
        dueNoSentence("q" + " ".repeat(1539));
        dueNoSentence(" ".repeat(1500));
    }

    private static void cutBytesAreNone() {
        tested = "The tape is a sentence (its bytes alone)";
        TreeSchool x = with(PAIRS);
        tell(x, "a a a");
        x.end(3);
        due("read()", x.read(), 1);
        due("words", x.count(3), 2);
        tell(x, "aa");
        x.end(1);
        due("read()", x.read(), 1);
        due("words", x.count(3), 1);
        tell(x, "abcdefghijk");
        x.end(10);
        due("read()", x.read(), 0);
    }

    // Trees.

    private static void oneWordByAnEntry() {
        tested = "made so: of one word by an ENTRY of it: its CATEGORY and FEATURES";
        TreeSchool x = with("word a x 0 3;word a y 3 0;word b x;rule x=y x;", "a");
        due("signs(0, 1)", x.signs(0, 1), 2);
        dueSign(x, 0, 1, 0, 0, 3, -1, -1, -1);
        dueSign(x, 0, 1, 1, 1, -1, -1, -1, 0);
        due("trees()", x.trees(), 1);
        dueRead(x, "c", 0);
        due("signs(0, 1)", x.signs(0, 1), 0);
        // Words that begin alike, or are as long, are others.
        dueRead(with("word ab x;rule x=x x;"), "a", 0);
        dueRead(with("word ab x;rule x=x x;"), "abc", 0);
        dueRead(with("word ab x;rule x=x x;"), "ba", 0);
        dueRead(with("word abcdefghij x;rule x=x x;"), "abcdefghij", 1);
        dueRead(with("word abcdefghij x;rule x=x x;"), "bbcdefghij", 0);
        dueRead(with("word abcdefghij x;rule x=x x;"), "abcdefghii", 0);
        dueRead(with("word a x;rule x=y z;"), "a a", 0);
    }

    private static void splits() {
        tested = "two PARTS: over i to m - 1 and m to j - 1, i < m < j";
        TreeSchool x = with("rule s=x x;word a x;");
        dueRead(x, "a", 0);
        dueRead(x, "a a", 1);
        dueRead(x, "a a a", 0);
        x = with("rule s=x x;word a x;rule x=x x;", "a ".repeat(14));
        for (int n = 1; n <= 14; n++) {
            // The first and the last split are one word each.
            due("signs(0, " + n + ")", x.signs(0, n), n == 1 ? 1 : 2);
            due("signs(" + (14 - n) + ", 14)", x.signs(14 - n, 14), n == 1 ? 1 : 2);
        }
        x = with("rule s=x y;word a x;word b y;rule x=x x;rule y=y y;");
        dueRead(x, "a b", 1);
        dueRead(x, "b a", 0);
        dueRead(x, "a " + "b ".repeat(13), 1);
        x.tree(0);
        due("the first split", x.node(1, 2), 1);
        dueRead(x, "a ".repeat(13) + "b", 1);
        x.tree(0);
        due("the last split", x.node(1, 2), 13);
        dueRead(x, "a b a", 0);
    }

    private static void agreeWithBoth() {
        tested = "agree: if both SLOTS have a VALUE, these must be the same, else the RULE makes nothing";
        for (int f = 0; f < 4; f++) {
            for (int v = 0; v < 4; v++) {
                for (int w = 0; w < 4; w++) {
                    TreeSchool x = with("word a x " + f + " " + v + ";word b y " + f + " " + w + ";rule s=x y agree " + f + " 1 2;");
                    dueRead(x, "a b", v == w ? 1 : 0);
                }
            }
        }
        dueMade(" 0 1", " 0 1", " agree 0 2 1", -1, -1, -1, -1);
        dueMade(" 0 1", " 0 2", " agree 0 2 1");
        dueMade(" 0 1", " 0 2", " agree 1 2 1", -1, -1, -1, -1);
        dueMade(" 0 1", " 0 2", " agree 0 0 1 agree 0 0 2");
        dueMade(" 0 2", " 0 2", " agree 0 0 1 agree 0 0 2", 2, -1, -1, -1);
        dueMade(" 0 1", "", " is 0 0 2 agree 0 0 1");
        dueMade(" 0 1", "", " is 0 0 1 agree 0 1 0", 1, -1, -1, -1);
        dueMade(" 0 0", " 0 3", " agree 0 1 2");
    }

    private static void oneLawBrokenIsEnough() {
        tested = "else the RULE makes nothing (whatever the other LAWS make)";
        for (int broken = 0; broken < 4; broken++) {
            for (int made = 0; made < 4; made++) {
                for (int value = 0; value < 4 && made != broken; value++) {
                    String left = " " + broken + " 0 " + made + " " + value;
                    String right = " " + broken + " 1";
                    String disagree = " agree " + broken + " 1 2";
                    String give = " agree " + made + " 0 1";
                    dueMade(left, right, disagree + give);
                    dueMade(left, right, give + disagree);
                    dueMade(left, right, " is " + broken + " 2 0" + give);
                    dueMade(left, right, give + " is " + made + " 0 " + (value + 1) % 4);
                }
            }
        }
    }

    private static void agreeWithOne() {
        tested = "if just one has, the other one has it then, too";
        dueMade(" 0 0", "", " agree 0 0 1", 0, -1, -1, -1);
        dueMade(" 0 0", "", " agree 0 1 0", 0, -1, -1, -1);
        dueMade("", " 3 3", " agree 3 0 2", -1, -1, -1, 3);
        dueMade("", " 3 3", " agree 3 2 0", -1, -1, -1, 3);
        dueMade(" 1 2", "", " agree 1 1 2 agree 1 0 2", -1, 2, -1, -1);
        dueMade("", " 1 2", " agree 1 1 2 agree 1 0 1", -1, 2, -1, -1);
        dueMade("", " 1 2", " agree 1 0 1 agree 1 1 2", -1, -1, -1, -1);
        dueMade(" 1 2", "", " agree 1 1 2 is 1 2 1");
        dueMade(" 1 2", "", " is 1 2 1 agree 1 1 2");
        dueMade(" 1 2", "", " agree 1 0 1 is 1 0 1");
        // None has: none has it then.
        dueMade("", "", " agree 0 0 1 agree 0 1 2", -1, -1, -1, -1);
        dueMade("", "", " agree 0 1 2 is 0 1 3 agree 0 0 2", -1, -1, -1, -1);
    }

    private static void lawsOfOnePart() {
        tested = "then LAW by LAW (of a RULE of one PART)";
        for (int f = 0; f < 4; f++) {
            for (int v = 0; v < 4; v++) {
                for (int w = 0; w < 4; w++) {
                    TreeSchool x = with("word a x " + f + " " + v + ";rule s=x agree " + f + " 0 1 is " + f + " 1 " + w + ";");
                    dueRead(x, "a", v == w ? 1 : 0);
                    due("tree(0)", x.tree(0), v == w ? 2 : -1);
                    due("signs(0, 1)", x.signs(0, 1), v == w ? 2 : 1);
                    due("value", v == w ? x.node(0, 5 + f) : v, v);
                }
            }
        }
        // Signs next to one another each make their own.
        TreeSchool x = with("word a x 3 3;word a x 3 2;word a x 3 1;word a x 3 0;word a x;rule s=x agree 3 0 1;", "a");
        due("signs(0, 1)", x.signs(0, 1), 10);
        for (int k = 0; k < 10; k++) {
            dueSign(x, 0, 1, k, k / 5, -1, -1, -1, k % 5 - 1);
        }
        due("trees()", x.trees(), 5);
        // By way of several rules, each made ahead of what it is a part of.
        x = with("rule s=r agree 0 0 1;rule r=q agree 0 0 1;rule q=p agree 0 0 1;word a p 0 1;word a p 0 3;word a r 0 2;", "a");
        due("trees()", x.trees(), 3);
        int[] values = {2, 1, 3};
        for (int k = 0; k < 3; k++) {
            due("tree(" + k + ")", x.tree(k), k == 0 ? 2 : 4);
            due("value", x.node(0, 5), values[k]);
        }
    }

    private static void isALaw() {
        tested = "is: the SLOT must have no VALUE or that one, and has it then";
        for (int v = 0; v < 4; v++) {
            for (int w = 0; w < 4; w++) {
                TreeSchool x = with("word a x 2 " + v + ";rule s=x is 2 1 " + w + ";");
                dueRead(x, "a", v == w ? 1 : 0);
            }
            dueMade("", "", " is 2 1 " + v, -1, -1, -1, -1);
            dueMade("", "", " is 2 0 " + v, -1, -1, v, -1);
            dueMade("", "", " is 2 2 " + v + " agree 2 0 2", -1, -1, v, -1);
            dueMade("", "", " is 2 1 " + v + " is 2 1 " + (3 - v));
            dueMade("", "", " is 2 0 " + v + " is 2 0 " + v, -1, -1, v, -1);
        }
        dueMade("", " 0 0", " is 0 1 1", -1, -1, -1, -1);
        dueMade("", " 0 0", " is 0 2 1");
    }

    private static void slotZeroHasNone() {
        tested = "SLOT 0 none";
        dueMade(" 0 0 1 1 2 2 3 3", " 0 0 1 1 2 2 3 3", "", -1, -1, -1, -1);
        dueMade(" 0 0 1 1 2 2 3 3", " 0 3", " is 0 1 0 is 1 1 1", -1, -1, -1, -1);
        // A rule used again begins with none again.
        TreeSchool x = with("word a x 0 1;word b x 0 2;rule s=x agree 0 0 1;", "a");
        due("value", x.sign(0, 1, 1, 1), 1);
        dueRead(x, "b", 1);
        due("value", x.sign(0, 1, 1, 1), 2);
    }

    private static void topHasSlotZero() {
        tested = "The top has what SLOT 0 has at last (TREES that are PARTS stay as they were).";
        TreeSchool x = with("word a x;word b y 0 2;rule s=x y agree 0 1 2 is 1 1 3 is 2 2 0 agree 0 0 1 is 3 0 1;", "a b");
        x.tree(0);
        dueNode(x, 0, 2, 0, 2, 0, 0, 2, -1, -1, 1);
        dueNode(x, 1, 0, 0, 1, -1, 1, -1, -1, -1, -1);
        dueNode(x, 2, 1, 1, 2, -2, 1, 2, -1, -1, -1);
        due("signs(0, 1)", x.signs(0, 1), 1);
        dueSign(x, 0, 1, 0, 0, -1, -1, -1, -1);
        dueSign(x, 1, 2, 0, 1, 2, -1, -1, -1);
        x = with("word a x;rule s=x is 0 1 3 agree 0 0 1;", "a");
        x.tree(0);
        dueNode(x, 0, 1, 0, 1, 0, 0, 3, -1, -1, -1);
        dueNode(x, 1, 0, 0, 1, -1, 1, -1, -1, -1, -1);
    }

    private static void root() {
        tested = "ROOT is the CATEGORY of RULE 0. A sentence is RIGHT, if there is a TREE of ROOT over all its words";
        TreeSchool x = with("word a x;word b y;rule y=x;rule x=y y;rule z=x;");
        dueRead(x, "a", 1);
        due("trees()", x.trees(), 1);
        dueRead(x, "b", 1);
        dueRead(x, "b b", 1);
        due("trees()", x.trees(), 1);
        dueRead(x, "c", 0);
        dueRead(x, "b c", 0);
        due("signs of the known word", x.signs(0, 1), 1);
        dueRead(x, "c b", 0);
        // Trees of other categories over all the words do not count.
        x = with("rule r=q q;word a x;rule z=x;");
        dueRead(x, "a", 0);
        due("signs(0, 1)", x.signs(0, 1), 2);
        due("trees()", x.trees(), 0);
        due("tree(0)", x.tree(0), -1);
    }

    private static void orderOfEntriesAndRules() {
        tested = "ORDER: those by ENTRIES ahead of those by RULES, by their numbers";
        TreeSchool x = with("rule x=y;word a y;rule x=z;word a x;word a x;rule x=y is 0 0 0;word a z;word a x 0 0;", "a");
        int[] by = {-2, -3, -5, 0, 1, 2};
        due("trees()", x.trees(), 6);
        for (int k = 0; k < 6; k++) {
            due("tree(" + k + ")", x.tree(k), k < 3 ? 1 : 2);
            due("by", x.node(0, 3), by[k]);
        }
        due("tree(6)", x.tree(6), -1);
    }

    private static void orderOfSplitsAndParts() {
        tested = "of one RULE by m; of one m by the first PART, then by the second one (of one PART by that)";
        TreeSchool x = with("rule x=x x;word a x 0 1;word a x;rule x=x x is 0 0 2;", "a a a");
        // 2 rules, 2 splits, 2 entries by (2 rules by 2 by 2 entries): 2 * 2 * 2 * 8.
        due("trees()", x.trees(), 64);
        int k = 0;
        for (int rule = 0; rule < 2; rule++) {
            for (int m = 1; m <= 2; m++) {
                for (int part = 0; part < 16; part++) {
                    due("tree(" + k + ")", x.tree(k), 5);
                    due("rule", x.node(0, 3), rule);
                    due("m", x.node(1, 2), m);
                    int inner = m == 1 ? part % 8 : part / 2;
                    int single = m == 1 ? part / 8 : part % 2;
                    int pair = m == 1 ? 2 : 1;
                    due("single", x.node(m == 1 ? 1 : 4, 3), -1 - single);
                    due("pair's rule", x.node(pair, 3), inner / 4);
                    due("pair's first", x.node(pair + 1, 3), -1 - inner / 2 % 2);
                    due("pair's second", x.node(pair + 2, 3), -1 - inner % 2);
                    k++;
                    // An object is used for 512 calls.
                    if (k % 32 == 0) {
                        x = with("rule x=x x;word a x 0 1;word a x;rule x=x x is 0 0 2;", "a a a");
                    }
                }
            }
        }
        x = with("rule s=x;word a x 0 2;word a x 0 1;rule x=y;word a y;word a x;", "a");
        int[] parts = {-1, -2, -4, 1};
        for (int n = 0; n < 4; n++) {
            x.tree(n);
            due("part of tree " + n, x.node(1, 3), parts[n]);
        }
    }

    private static void signsInOrder() {
        tested = "SIGNS of i, j: unlike pairs of CATEGORY and FEATURES .., by CATEGORY, then FEATURE by FEATURE, none ahead of 0.";
        int[][] due = {{0, -1, -1, -1, -1}, {0, -1, -1, -1, 0}, {0, -1, -1, -1, 3}, {0, -1, -1, 0, -1}, {0, -1, -1, 3, 3},
            {0, -1, 0, -1, -1}, {0, -1, 3, 3, 3}, {0, 0, -1, -1, -1}, {0, 0, 0, 0, 0}, {0, 1, -1, -1, -1}, {0, 3, 3, 3, 3},
            {1, -1, -1, -1, -1}, {1, 0, -1, -1, -1}};
        StringBuilder s = new StringBuilder("rule x=y x;");
        for (int n = due.length - 1; n >= 0; n--) {
            s.append("word a ").append(due[n][0] == 0 ? 'x' : 'y');
            for (int f = 0; f < 4; f++) {
                s.append(due[n][f + 1] < 0 ? "" : " " + f + " " + due[n][f + 1]);
            }
            s.append(';');
        }
        TreeSchool x = with(s.toString().replace("rule x=y x;", "rule x=x y;"), "a");
        due("signs(0, 1)", x.signs(0, 1), due.length);
        for (int k = 0; k < due.length; k++) {
            dueSign(x, 0, 1, k, due[k]);
            due("times(0, 1, " + k + ")", x.times(0, 1, k), 1);
        }
        // Told twice, or made in two ways: one sign.
        x = with("word a x 0 1;word a x 0 1 0 1;rule x=y is 0 0 1;word a y;", "a");
        due("signs(0, 1)", x.signs(0, 1), 2);
        due("times(0, 1, 0)", x.times(0, 1, 0), 3);
    }

    private static void sixtySigns() {
        tested = "If some i, j has more than 60, the sentence is LARGE.";
        TreeSchool x = with(cross(6, 10), "a b");
        due("signs(0, 2)", x.signs(0, 2), 60);
        dueSign(x, 0, 2, 59, 0, 1, 1, 2, 1);
        dueNoSign(x, 0, 2, 60, 0);
        due("trees()", x.trees(), 60);
        due("tree(59)", x.tree(59), 3);
        due("mark()", x.mark(), 3);
        dueRead(with(cross(4, 15)), "a b", 1);
        dueRead(with(cross(5, 12)), "a b", 1);
        dueRead(with(cross(4, 16)), "a b", -2);
        dueRead(with(cross(7, 9)), "a b", -2);
        // One sign more, of another category, ahead of the sixty or behind them.
        String sixtyAndOne = cross(6, 10) + "rule #=x y;";
        dueRead(with(sixtyAndOne.replace('#', 'z')), "a b", -2);
        dueRead(with("word q z;" + sixtyAndOne.replace('#', 'z')), "a b", -2);
        dueRead(with("word q s;" + cross(6, 10) + "rule s=x y is 0 0 0 is 1 0 0 is 2 0 0 is 3 0 0;"), "a b", 1);
        // One of one part, which the first of the sixty alone makes, or the last one, or none.
        dueRead(with(cross(6, 10) + "rule z=s is 0 1 0 is 1 1 0 is 2 1 0 is 3 1 0;"), "a b", -2);
        dueRead(with(cross(6, 10) + "rule z=s is 0 1 1 is 1 1 1 is 2 1 2 is 3 1 1;"), "a b", -2);
        dueRead(with(cross(6, 10) + "rule z=s is 0 1 1 is 1 1 1 is 2 1 2 is 3 1 2;"), "a b", 1);
    }

    private static void largeAnywhere() {
        tested = "If some i, j has more than 60 (be it no part of a TREE)";
        for (int at = 0; at <= 12; at++) {
            String text = "q ".repeat(at) + "a b" + " q".repeat(12 - at);
            dueRead(with(cross(6, 10)), text, 0);
            dueRead(with(cross(7, 9)), text, -2);
        }
        dueRead(with(cross(7, 9)), "b a", 0);
        dueRead(with(cross(7, 9)), "a q b", 0);
        dueRead(with(cross(7, 9)), "a", 0);
    }

    private static void largeOverOneWord() {
        tested = "If some i, j has more than 60 (over one word)";
        // Forty entries and, by rules of one part, as many signs again.
        for (int n = 29; n <= 31; n++) {
            StringBuilder s = new StringBuilder("rule s=x agree 0 0 1 agree 1 0 1 agree 2 0 1;");
            for (int e = 0; e < n; e++) {
                s.append("word a x 0 ").append(e / 16).append(" 1 ").append(e / 4 % 4).append(" 2 ").append(e % 4).append(';');
            }
            TreeSchool x = with(s.toString());
            dueRead(x, "a", n <= 30 ? 1 : -2);
            due("signs(0, 1)", x.signs(0, 1), n <= 30 ? 2 * n : -1);
            due("trees()", x.trees(), n <= 30 ? n : 0);
        }
    }

    // Promise 6.

    private static void readRight() {
        tested = "1 it is RIGHT, 0 not .. (Behind 1, 0, -2 no DRAWING, no TREE at hand.)";
        for (String text : new String[] {"dogs bark", "dog bark", "q"}) {
            TreeSchool x = inUse();
            int words = text.length() - text.replace(" ", "").length() + 1;
            dueRead(x, text, text.equals("dogs bark") ? 1 : 0);
            dueCounts(x, 5, 4, 6, words, 0, 0, 0, 2);
            due("held()", x.held(), -1);
            dueNoNode(x, 0, 0);
            due("wipe()", x.wipe(), 0);
            due("slips()", x.slips(), text.equals("dogs bark") ? 5 : -1);
        }
    }

    private static void readLarge() {
        tested = "-2 LARGE (no sentence then) .. (Behind 1, 0, -2 no DRAWING, no TREE at hand.)";
        TreeSchool x = with(cross(7, 9) + "rule s=x;");
        dueRead(x, "a", 1);
        due("tree(0)", x.tree(0), 2);
        x.name(1);
        dueBracket(x, "x", 0, 1, true);
        dueRead(x, "a b", -2);
        String before = portrait(x);
        due("portrait", before.equals("counts 16 2 3 0 0 0 0 1 fault 0 trees 0 slips -1 held -1 out x"), true);
        due("tree(0)", x.tree(0), -1);
        due("mark()", x.mark(), -1);
        due("wipe()", x.wipe(), 0);
        due("signs(0, 1)", x.signs(0, 1), -1);
        due("signs(0, 2)", x.signs(0, 2), -1);
        dueNoSign(x, 0, 1, 0, 0);
        dueNoTimes(x, 0, 1, 0);
        dueNoNode(x, 0, 0);
        dueBracket(x, "x", 0, 1, false);
        dueRead(x, "", -1);
        dueSame("calls without a sentence", x, before);
        dueRead(x, "a", 1);
        due("trees()", x.trees(), 7);
    }

    private static void readNone() {
        tested = "NONE: it is none, there is no GRAMMAR, or it has no RULES: all stays.";
        String[] none = {"", " ", "the dog.", "the dog\tbarks", "the dog 2 barks", "abcdefghijk", "a ".repeat(15),
            "a" + " ".repeat(1500), "dogs\0", "\u00e4"};
        for (String text : none) {
            dueNoSentence(text);
        }
        TreeSchool x = new TreeSchool();
        dueRead(x, "a", -1);
        dueRead(x, "", -1);
        dueCounts(x, 0, 0, 0, 0, 0, 0, 0, 0);
        dueGrammar(x, "rule a=a;", 4, -1);
        dueRead(x, "a", -1);
        dueGrammar(x, "word a b;", 0, 1);
        dueRead(x, "a", -1);
        dueRead(x, "", -1);
        dueCounts(x, 1, 0, 1, 0, 0, 0, 0, 0);
        dueGrammar(x, "rule b=c d;", 0, 1);
        dueRead(x, "a", 0);
        dueGrammar(x, "word a b;", 0, 1);
        dueRead(x, "a", -1);
        dueCounts(x, 1, 0, 1, 0, 0, 0, 0, 0);
    }

    private static void treesBehindReadNone() {
        tested = "NONE: it is none ..: all stays. (TREES that are told behind it)";
        String[] none = {"", "dogs bark 2", "the dogs.", "bark the dog dog dog.", "a ".repeat(15)};
        for (String text : none) {
            TreeSchool x = with(TOY, "the dog barks");
            dueRead(x, text, -1);
            due("tree(0) behind [" + text + "]", x.tree(0), 6);
            dueToyTree(x);
            dueRead(x, text, -1);
            due("mark() behind [" + text + "]", x.mark(), 6);
            dueToyTree(x);
            dueRead(x, text, -1);
            dueBracket(x, "vp", 2, 3, true);
            due("slips() behind [" + text + "]", x.slips(), 5);
        }
    }

    private static void dueToyTree(TreeSchool x) {
        dueNode(x, 0, 3, 0, 3, 0, 0, -1, -1, -1, -1);
        dueNode(x, 1, 4, 0, 2, 1, 1, 0, -1, -1, -1);
        dueNode(x, 2, 0, 0, 1, -1, 2, -1, -1, -1, -1);
        dueNode(x, 3, 1, 1, 2, -2, 2, 0, -1, -1, -1);
        dueNode(x, 4, 5, 2, 3, 3, 1, 0, -1, -1, -1);
        dueNode(x, 5, 2, 2, 3, -4, 2, 0, -1, -1, -1);
    }

    private static void readAgain() {
        tested = "The tape is a sentence (nothing of the one ahead is left)";
        TreeSchool x = with(PAIRS, "a ".repeat(14));
        dueRead(x, "a b a", 0);
        int[][] due = {{0, 1, 1}, {1, 2, 0}, {2, 3, 1}, {0, 2, 0}, {1, 3, 0}, {0, 3, 0}, {0, 4, -1}, {3, 4, -1}};
        for (int[] d : due) {
            due("signs(" + d[0] + ", " + d[1] + ")", x.signs(d[0], d[1]), d[2]);
        }
        due("trees()", x.trees(), 0);
        dueRead(x, "a a", 1);
        due("trees()", x.trees(), 1);
        due("times(0, 2, 0)", x.times(0, 2, 0), 1);
    }

    // Promises 7 to 12.

    private static void treesWithoutASentence() {
        tested = "How many TREES the sentence has: 0 also without one";
        TreeSchool x = new TreeSchool();
        due("trees()", x.trees(), 0);
        dueGrammar(x, PAIRS, 0, 2);
        due("trees()", x.trees(), 0);
        dueRead(x, "a a a", 1);
        due("trees()", x.trees(), 2);
        dueRead(x, ".", -1);
        due("trees()", x.trees(), 2);
        dueRead(x, "b", 0);
        due("trees()", x.trees(), 0);
        dueRead(x, "a", 1);
        dueGrammar(x, PAIRS, 0, 2);
        due("trees()", x.trees(), 0);
    }

    // Ten to the fourteenth trees of r, by one rule of one split each.
    private static final String TEN = "word a x;".repeat(10) + "rule r=x;rule r=x r;";

    private static void treesUpToMany() {
        tested = "10^15, if there are so many or more";
        for (int n = 1; n <= 14; n++) {
            TreeSchool x = with("rule q=r;".repeat(n) + TEN, "a ".repeat(14));
            due("trees() of " + n, x.trees(), Math.min(MANY, n * (MANY / 10)));
        }
        TreeSchool x = with("word a x;".repeat(40) + "rule x=x x;".repeat(30), "a ".repeat(14));
        due("trees()", x.trees(), MANY);
        x = with("rule q=r is 0 0 0;".repeat(6) + "rule q=r is 0 0 1;".repeat(4) + TEN, "a ".repeat(14));
        due("trees() of two signs", x.trees(), MANY);
        x = with("rule q=r is 0 0 0;".repeat(5) + "rule q=r is 0 0 1;".repeat(4) + TEN, "a ".repeat(14));
        due("trees() of two signs", x.trees(), 9 * (MANY / 10));
    }

    private static void treesJustBelowMany() {
        tested = "10^15, if there are so many or more (one below it)";
        // Over n words c has 9 trees, o has 1, and r ten times those over n - 1 and 9: 10^n - 1.
        String nines = "rule q=r;".repeat(10) + "rule q=c;rule r=x r;rule r=c;rule c=d c;rule c=e;rule o=d o;rule o=d;"
                + "word a x;".repeat(10) + "word a e;".repeat(9) + "word a d;";
        for (int more = 0; more <= 2; more++) {
            TreeSchool x = with(nines + "rule q=o;".repeat(more), "a ".repeat(14));
            due("trees() with " + more, x.trees(), more == 0 ? MANY - 1 : MANY);
            due("times(0, 14, 0)", x.times(0, 14, 0), more == 0 ? MANY - 1 : MANY);
            due("times(0, 13, 0)", x.times(0, 13, 0), MANY / 10 - 1 + more);
        }
    }

    private static void productsJustBelowMany() {
        tested = "10^15, if there are so many or more (a product)";
        // r has 100 times its trees over a word less and 33; s ten times those of r and 3: 333333333333333 over 8 words.
        String threes = "rule r=x r;".repeat(10) + "rule r=c;".repeat(3) + "rule c=d c;rule c=e;rule s=x r;rule s=h;rule h=d h;"
                + "rule h=k;" + "word a x;".repeat(10) + "word a e;".repeat(11) + "word a k;".repeat(3) + "word a d;";
        for (int times = 2; times <= 4; times++) {
            long due = Math.min(MANY, times * 333333333333333L);
            TreeSchool x = with("rule q=y s;" + threes + "word b y;".repeat(times), "b" + " a".repeat(8));
            due("trees() of " + times, x.trees(), due);
            due("times(0, 9, 0) of " + times, x.times(0, 9, 0), due);
            x = with("rule q=s y;" + threes + "word b y;".repeat(times), "a ".repeat(8) + "b");
            due("trees() of " + times, x.trees(), due);
            due("times(0, 9, 0) of " + times, x.times(0, 9, 0), due);
        }
    }

    private static void productOfMany() {
        tested = "10^15, if there are so many or more (a product of 10^15, of one more)";
        // 4 times 10^13 trees of r.
        String r = "rule r=x;".repeat(4) + "rule r=x r;" + "word a x;".repeat(10);
        for (int times = 24; times <= 26; times++) {
            TreeSchool x = with("rule q=y r;" + r + "word b y;".repeat(times), "b" + " a".repeat(13));
            due("trees() of " + times, x.trees(), Math.min(MANY, times * (MANY / 25)));
            due("times(0, 14, 0) of " + times, x.times(0, 14, 0), Math.min(MANY, times * (MANY / 25)));
        }
        // r has a hundred times its trees over a word less and 90, with e ahead 91: 90909090909091 over 7 words.
        String nineties = "rule c=k;".repeat(9) + "rule r=k r;".repeat(10) + "rule r=c h;rule r=c;rule r=v h;rule h=u h;rule h=u;"
                + "word a k;".repeat(10) + "word a u;" + "word e k;".repeat(10) + "word e u;word e v;";
        for (int times = 10; times <= 11; times++) {
            TreeSchool x = with("rule q=y r;" + nineties + "word b y;".repeat(times), "b e a a a a a a");
            due("trees() of r", x.times(1, 8, 0), 90909090909091L);
            due("trees() of " + times, x.trees(), Math.min(MANY, times * 90909090909091L));
            due("times(0, 8, 0) of " + times, x.times(0, 8, 0), Math.min(MANY, times * 90909090909091L));
        }
    }

    private static void signsOfSpans() {
        tested = "How many SIGNS i, j have (0 <= i < j <= how many words there are); NONE: no such i, j, or no sentence.";
        TreeSchool x = with(TOY, "the dog barks");
        int[] ends = {Integer.MIN_VALUE, -1, 0, 1, 2, 3, 4, 14, 15, Integer.MAX_VALUE};
        int[][] found = {{0, 1, 1, 1}, {0, 0, 1, 0}, {0, 0, 0, 2}};
        for (int i : ends) {
            for (int j : ends) {
                boolean span = 0 <= i && i < j && j <= 3;
                due("signs(" + i + ", " + j + ")", x.signs(i, j), span ? found[i][j] : -1);
            }
        }
        for (int i : ends) {
            for (int j : ends) {
                due("signs(" + i + ", " + j + ") of a new object", new TreeSchool().signs(i, j), -1);
                due("signs(" + i + ", " + j + ") ahead of read()", with(TOY).signs(i, j), -1);
            }
        }
    }

    private static void signNone() {
        tested = "SIGN k of i, j: .. NoSuchElementException: there is none such, or another what.";
        TreeSchool x = inUse();
        String before = portrait(x);
        int[][] none = {{0, 1, 1, 0}, {0, 1, -1, 0}, {2, 3, 2, 0}, {1, 3, 0, 0}, {0, 4, 0, 0}, {0, 0, 0, 0}, {1, 0, 0, 0},
            {-1, 1, 0, 0}, {3, 4, 0, 0}, {0, 1, 0, 5}, {0, 1, 0, -1}, {0, 1, 60, 0}, {0, 1, Integer.MAX_VALUE, 0},
            {0, 1, Integer.MIN_VALUE, 0}, {0, 1, 0, Integer.MAX_VALUE}, {0, 1, 0, Integer.MIN_VALUE},
            {Integer.MIN_VALUE, 1, 0, 0}, {0, Integer.MAX_VALUE, 0, 0}, {0, Integer.MIN_VALUE, 0, 0}};
        for (int[] n : none) {
            dueNoSign(x, n[0], n[1], n[2], n[3]);
        }
        dueSame("sign() that throws", x, before);
        dueSign(x, 2, 3, 1, 5, 0, -1, -1, -1);
        dueNoSign(new TreeSchool(), 0, 1, 0, 0);
        dueNoSign(with(TOY), 0, 1, 0, 0);
    }

    private static void timesUpToMany() {
        tested = "Of how many TREES SIGN k of i, j is the top (10^15: so many or more).";
        for (int n = 8; n <= 12; n++) {
            TreeSchool x = with("rule q=r;".repeat(n) + TEN, "a ".repeat(14));
            due("signs(0, 14)", x.signs(0, 14), 2);
            due("times(0, 14, 0)", x.times(0, 14, 0), Math.min(MANY, n * (MANY / 10)));
            due("times(0, 14, 1)", x.times(0, 14, 1), MANY / 10);
            due("times(0, 1, 0)", x.times(0, 1, 0), 10 * n);
            due("times(0, 13, 0)", x.times(0, 13, 0), n * (MANY / 100));
        }
        // Beyond the bound nothing wraps around.
        TreeSchool x = with("word a x;".repeat(40) + "rule x=x x;".repeat(30), "a ".repeat(14));
        long[] catalan = {1, 1, 2, 5, 14, 42, 132, 429, 1430, 4862, 16796, 58786, 208012, 742900};
        for (int n = 1; n <= 14; n++) {
            // So many shapes, with an entry of 40 for each word and a rule of 30 for each pair.
            double due = catalan[n - 1] * Math.pow(40, n) * Math.pow(30, n - 1);
            due("times(0, " + n + ", 0)", x.times(0, n, 0), due >= MANY ? MANY : (long) due);
        }
    }

    private static void timesOfEverySign() {
        tested = "Of how many TREES SIGN k of i, j is the top (of many SIGNS, each with its own TREES)";
        StringBuilder s = new StringBuilder("rule s=x y agree 0 0 1 agree 1 0 1 agree 2 0 2 agree 3 0 2;");
        // Of the value n there are n + 1 entries, in the order of the signs and against it.
        for (int n = 0; n < 6; n++) {
            s.append(("word a x 0 " + n / 4 + " 1 " + n % 4 + ";").repeat(n + 1));
        }
        for (int n = 4; n >= 0; n--) {
            s.append(("word b y 2 " + n / 4 + " 3 " + n % 4 + ";").repeat(n + 1));
        }
        TreeSchool x = with(s.toString());
        dueRead(x, "a b a b", 0);
        for (int i = 0; i <= 2; i += 2) {
            due("signs(" + i + ", " + (i + 2) + ")", x.signs(i, i + 2), 30);
            for (int k = 0; k < 30; k++) {
                due("times(" + i + ", " + (i + 2) + ", " + k + ")", x.times(i, i + 2, k), (k / 5 + 1) * (k % 5 + 1));
                dueSign(x, i, i + 2, k, 0, k / 20, k / 5 % 4, k % 5 / 4, k % 5 % 4);
            }
        }
        for (int k = 0; k < 5; k++) {
            due("times(3, 4, " + k + ")", x.times(3, 4, k), k + 1);
        }
    }

    private static void timesNone() {
        tested = "times: NoSuchElementException likewise.";
        TreeSchool x = inUse();
        String before = portrait(x);
        int[][] none = {{0, 1, 1}, {0, 1, -1}, {2, 3, 2}, {1, 3, 0}, {0, 4, 0}, {0, 0, 0}, {1, 0, 0}, {-1, 1, 0}, {3, 4, 0},
            {0, 1, 60}, {0, 1, Integer.MAX_VALUE}, {0, 1, Integer.MIN_VALUE}, {Integer.MIN_VALUE, 1, 0},
            {0, Integer.MAX_VALUE, 0}, {0, Integer.MIN_VALUE, 0}};
        for (int[] n : none) {
            dueNoTimes(x, n[0], n[1], n[2]);
        }
        dueSame("times() that throws", x, before);
        due("times(2, 3, 1)", x.times(2, 3, 1), 1);
        dueNoTimes(new TreeSchool(), 0, 1, 0);
        dueNoTimes(with(TOY), 0, 1, 0);
    }

    private static void treeUpTo999999() {
        tested = "TREE k (by ORDER, 0 to 999999) is at hand: how many NODES it has";
        TreeSchool x = with("word a x;".repeat(10) + "rule r=x r;rule r=x;", "a a a a a a");
        due("trees()", x.trees(), 1000000);
        int[] numbers = {0, 1, 9, 10, 123456, 999990, 999998, 999999};
        for (int k : numbers) {
            due("tree(" + k + ")", x.tree(k), 12);
            int rest = k;
            for (int word = 5; word >= 0; word--) {
                due("entry of word " + word + " of tree " + k, x.node(word == 5 ? 11 : 2 * word + 1, 3), -1 - rest % 10);
                rest /= 10;
            }
        }
        due("tree(1000000)", x.tree(1000000), -1);
        x = with("word a x;".repeat(10) + "rule r=x r;rule r=x;", "a a a a a a a");
        due("trees()", x.trees(), 10000000);
        due("tree(999999)", x.tree(999999), 14);
        due("entry of the first word", x.node(1, 3), -1);
        due("entry of the last word", x.node(13, 3), -10);
        due("tree(1000000)", x.tree(1000000), -1);
        due("tree(1000001)", x.tree(1000001), -1);
        due("tree(9999999)", x.tree(9999999), -1);
        due("entry of the last word", x.node(13, 3), -10);
    }

    private static void treeOfMany() {
        tested = "TREE k (of 10^15 or more)";
        TreeSchool x = with("word a x;".repeat(40) + "rule x=x x;".repeat(30), "a ".repeat(14));
        int[] numbers = {0, 39, 40, 999999};
        for (int k : numbers) {
            due("tree(" + k + ")", x.tree(k), 27);
            due("rule", x.node(0, 3), 0);
            due("the first word's entry", x.node(1, 3), -1);
            due("the last word's entry", x.node(26, 3), -1 - k % 40);
            due("the last but one's", x.node(25, 3), -1 - k / 40 % 40);
        }
        due("tree(1000000)", x.tree(1000000), -1);
    }

    private static void treeNone() {
        tested = "NONE: there is none such (the one at hand stays).";
        TreeSchool x = with(PAIRS, "a a a a");
        int[] none = {-1, 5, 6, 1000000, Integer.MAX_VALUE, Integer.MIN_VALUE};
        for (int k : none) {
            due("tree(" + k + ")", x.tree(k), -1);
            due("nodes at hand", x.count(5), 0);
        }
        due("tree(4)", x.tree(4), 7);
        String before = portrait(x);
        for (int k : none) {
            due("tree(" + k + ")", x.tree(k), -1);
        }
        dueSame("tree() of none", x, before);
        due("tree(0)", x.tree(0), 7);
        due("tree(0) of a new object", new TreeSchool().tree(0), -1);
        due("tree(0) without a sentence", with(PAIRS).tree(0), -1);
        dueRead(x, "b", 0);
        due("tree(0) of a sentence without", x.tree(0), -1);
    }

    private static void nodesInOrder() {
        tested = "NODE m of the TREE at hand (0 its top; a NODE, then all of its first PART, then of its second one)";
        TreeSchool x = with("rule s=p q;rule p=x;rule q=y p;word a x 0 1;word b y 3 2;", "a b a");
        due("tree(0)", x.tree(0), 7);
        dueNode(x, 0, 0, 0, 3, 0, 0, -1, -1, -1, -1);
        dueNode(x, 1, 1, 0, 1, 1, 1, -1, -1, -1, -1);
        dueNode(x, 2, 3, 0, 1, -1, 2, 1, -1, -1, -1);
        dueNode(x, 3, 2, 1, 3, 2, 1, -1, -1, -1, -1);
        dueNode(x, 4, 4, 1, 2, -2, 2, -1, -1, -1, 2);
        dueNode(x, 5, 1, 2, 3, 1, 2, -1, -1, -1, -1);
        dueNode(x, 6, 3, 2, 3, -1, 3, 1, -1, -1, -1);
        dueNoNode(x, 7, 0);
    }

    private static void valuesOfNodes() {
        tested = "NODE m .. 5 to 8 VALUES of FEATURES 0 to 3";
        // Feature 0 comes from a node's first word, feature 3 from its last one.
        TreeSchool x = with("rule x=x x agree 0 0 1 agree 3 0 2;word a x 0 0 3 0;word b x 0 1 3 1;word c x 0 2 3 2;word d x 0 3 3 3;",
                "a b c d");
        due("trees()", x.trees(), 5);
        for (int k = 0; k < 5; k++) {
            due("tree(" + k + ")", x.tree(k), 7);
            for (int m = 0; m < 7; m++) {
                due("feature 0 of node " + m, x.node(m, 5), x.node(m, 1));
                due("feature 1 of node " + m, x.node(m, 6), -1);
                due("feature 2 of node " + m, x.node(m, 7), -1);
                due("feature 3 of node " + m, x.node(m, 8), x.node(m, 2) - 1);
            }
        }
        due("mark()", x.mark(), 7);
        dueNode(x, 0, 0, 0, 4, 0, 0, 0, -1, -1, 3);
    }

    private static void deepestTree() {
        tested = "NODE m .. 4 how many NODES it lies in (the largest TREE)";
        StringBuilder s = new StringBuilder();
        for (char c = 'a'; c < 'p'; c++) {
            s.append("rule ").append(c).append('=').append((char) (c + 1)).append(';');
        }
        TreeSchool x = with(s + "rule p=a a;word x p;", "x ".repeat(14));
        due("trees()", x.trees(), 742900);
        due("tree(742899)", x.tree(742899), 432);
        due("depth of the deepest", x.node(223, 4), 223);
        due("its end", x.node(223, 2), 1);
        due("its entry", x.node(223, 3), -1);
        dueNoNode(x, 432, 0);
        due("tree(0)", x.tree(0), 432);
        due("depth of the last", x.node(431, 4), 223);
        due("mark()", x.mark(), 432);
        due("slips()", x.slips(), 432);
        due("held()", x.held(), 432);
    }

    private static void deepestTreeToTheRight() {
        tested = "NODE m .. (every NODE of the first of the largest TREES)";
        // The chain over a word, then that over all the words behind it.
        dueChain(0, 0, 0, 14, 0);
        for (int i = 0; i < 13; i++) {
            dueChain(0, 16 + 32 * i, i, i + 1, 16 * (i + 1));
            dueChain(0, 32 + 32 * i, i + 1, 14, 16 * (i + 1));
        }
    }

    private static void deepestTreeToTheLeft() {
        tested = "NODE m .. (every NODE of the last of the largest TREES)";
        for (int j = 14; j >= 1; j--) {
            dueChain(742899, 16 * (14 - j), 0, j, 16 * (14 - j));
        }
        for (int i = 1; i < 14; i++) {
            dueChain(742899, 208 + 16 * i, i, i + 1, 16 * (14 - i));
        }
    }

    // Of that tree: from node m on sixteen of one span, each in the one ahead of it.
    private static void dueChain(int tree, int m, int i, int j, int depth) {
        StringBuilder s = new StringBuilder();
        for (char c = 'a'; c < 'p'; c++) {
            s.append("rule ").append(c).append('=').append((char) (c + 1)).append(" agree 0 0 1;");
        }
        TreeSchool x = with(s + "rule p=a a agree 0 0 1 agree 0 0 2;word x p 0 2;", "x ".repeat(14));
        due("tree(" + tree + ")", x.tree(tree), 432);
        for (int k = 0; k < 16; k++) {
            int by = k < 15 ? k : j == i + 1 ? -1 : 15;
            dueNode(x, m + k, k, i, j, by, depth + k, 2, -1, -1, -1);
        }
    }

    private static void nodeNone() {
        tested = "node: NoSuchElementException: there is none such, or another what.";
        TreeSchool x = with(TOY, "the dog barks");
        dueNoNode(x, 0, 0);
        x = inUse();
        String before = portrait(x);
        int[][] none = {{6, 0}, {7, 8}, {-1, 0}, {432, 0}, {0, 9}, {0, -1}, {5, 9}, {Integer.MAX_VALUE, 0},
            {Integer.MIN_VALUE, 0}, {0, Integer.MAX_VALUE}, {0, Integer.MIN_VALUE}, {-1, -1}, {6, 9}};
        for (int[] n : none) {
            dueNoNode(x, n[0], n[1]);
        }
        dueSame("node() that throws", x, before);
        // A smaller tree leaves none of a larger one's nodes.
        x = with("word a x;rule x=y;rule y=z;word a z;", "a");
        due("tree(1)", x.tree(1), 3);
        due("node(2, 0)", x.node(2, 0), 2);
        due("tree(0)", x.tree(0), 1);
        dueNoNode(x, 1, 0);
        dueNoNode(new TreeSchool(), 0, 0);
    }

    public static void main(String[] args) {
        wordsUpTo14();
        wordsAreNames();
        blanksAround();
        sentenceOf1500Bytes();
        cutBytesAreNone();
        oneWordByAnEntry();
        splits();
        agreeWithBoth();
        oneLawBrokenIsEnough();
        agreeWithOne();
        lawsOfOnePart();
        isALaw();
        slotZeroHasNone();
        topHasSlotZero();
        root();
        orderOfEntriesAndRules();
        orderOfSplitsAndParts();
        signsInOrder();
        sixtySigns();
        largeAnywhere();
        largeOverOneWord();
        readRight();
        readLarge();
        readNone();
        treesBehindReadNone();
        readAgain();
        treesWithoutASentence();
        treesUpToMany();
        treesJustBelowMany();
        productsJustBelowMany();
        productOfMany();
        signsOfSpans();
        signNone();
        timesUpToMany();
        timesOfEverySign();
        timesNone();
        treeUpTo999999();
        treeOfMany();
        treeNone();
        nodesInOrder();
        valuesOfNodes();
        deepestTree();
        deepestTreeToTheRight();
        deepestTreeToTheLeft();
        nodeNone();
        finish("sentences and trees keep their boundaries");
    }
}
