/** A test of its own for each sentence on drawings, names and counts that names a boundary case. */
public final class TreeSchoolDrawingEdges extends Bench {
    private static final String PAIRS = "word a x;rule x=x x;";
    private static final int[] ENDS = {Integer.MIN_VALUE, -1, 0, 1, 2, 3, 4, 14, 15, Integer.MAX_VALUE};

    private static TreeSchool inUse() {
        TreeSchool x = with(TOY, "the dog barks");
        x.tree(0);
        x.name(4);
        dueBracket(x, "vp", 0, 3, true);
        return x;
    }

    private static void drawAll(TreeSchool x, String name, int words, int most) {
        int drawn = 0;
        for (int i = 0; i < words; i++) {
            for (int j = i + 1; j <= words && drawn < most; j++) {
                dueBracket(x, name, i, j, true);
                drawn++;
            }
        }
    }

    // Drawings and slips.

    private static void bracketsUpTo40() {
        tested = "A DRAWING has BRACKETS: .. at most 40";
        TreeSchool x = with(PAIRS + "rule y=x z;", "a ".repeat(9));
        drawAll(x, "y", 9, 40);
        due("brackets", x.count(4), 40);
        due("slips()", x.slips(), 57);
        dueBracket(x, "x", 0, 1, false);
        dueBracket(x, "y", 8, 9, false);
        dueBracket(x, "y", 0, 1, false);
        due("brackets", x.count(4), 40);
        due("slips()", x.slips(), 57);
        due("wipe()", x.wipe(), 40);
        dueBracket(x, "x", 0, 1, true);
        due("brackets", x.count(4), 1);
        due("slips()", x.slips(), 16);
    }

    private static void bracketsOnce() {
        tested = "A DRAWING has BRACKETS: a CATEGORY, i, j, .. each once";
        TreeSchool x = with(TOY, "the dog barks");
        String[] names = {"d", "n", "v", "s", "np", "vp"};
        int drawn = 0;
        for (String name : names) {
            for (int i = 0; i < 3; i++) {
                for (int j = i + 1; j <= 3; j++) {
                    dueBracket(x, name, i, j, true);
                    dueBracket(x, name, i, j, false);
                    drawn++;
                    due("brackets", x.count(4), drawn);
                }
            }
        }
        due("wipe()", x.wipe(), 36);
        // Not only the one that came last is known.
        dueBracket(x, "np", 0, 2, true);
        dueBracket(x, "np", 1, 2, true);
        dueBracket(x, "vp", 0, 2, true);
        dueBracket(x, "np", 0, 2, false);
        due("brackets", x.count(4), 3);
    }

    private static void slipsOfBrackets() {
        tested = "SLIPS of a TREE: BRACKETS that are none of its NODES' (CATEGORY, and over i to j - 1)";
        TreeSchool x = with(TOY, "the dog barks");
        x.tree(0);
        // Category, i, j, and whether the tree has such a node.
        String[] names = {"np", "np", "vp", "d", "d", "s", "s", "n", "v", "vp"};
        int[][] spans = {{0, 2}, {0, 3}, {0, 2}, {0, 1}, {1, 2}, {0, 3}, {0, 2}, {1, 2}, {2, 3}, {2, 3}};
        int[] met = {1, 0, 0, 1, 0, 1, 0, 1, 1, 1};
        int slips = 6;
        for (int n = 0; n < names.length; n++) {
            dueBracket(x, names[n], spans[n][0], spans[n][1], true);
            slips += met[n] == 1 ? -1 : 1;
            due("held()", x.held(), slips);
            due("slips()", x.slips(), slips);
        }
        due("all nodes are met", slips, 4);
    }

    private static void slipsOfNodes() {
        tested = "and its NODES that are none of the BRACKETS (NODES alike in that, one each)";
        TreeSchool x = with(PAIRS, "a a a");
        x.tree(0);
        due("held()", x.held(), 5);
        // Nodes of one category over one span come by no rule; over the same words they differ in their category.
        x = with("rule s=x;rule x=y;rule y=z;word a z;word a s;", "a");
        due("slips()", x.slips(), 1);
        due("tree(1)", x.tree(1), 4);
        due("held()", x.held(), 4);
        dueBracket(x, "x", 0, 1, true);
        due("held()", x.held(), 3);
        due("slips()", x.slips(), 2);
        dueBracket(x, "y", 0, 1, true);
        dueBracket(x, "z", 0, 1, true);
        due("held()", x.held(), 1);
        due("slips()", x.slips(), 1);
        dueBracket(x, "s", 0, 1, true);
        due("held()", x.held(), 0);
        due("slips()", x.slips(), 0);
        due("mark()", x.mark(), 4);
    }

    private static void featuresAreNotDrawn() {
        tested = "BRACKETS .. of its NODES' (CATEGORY, and over i to j - 1) (whatever their FEATURES)";
        TreeSchool x = with("rule s=x agree 0 0 1;word a x 0 3;word a x 0 1;word a x;", "a");
        dueBracket(x, "x", 0, 1, true);
        for (int k = 0; k < 3; k++) {
            due("tree(" + k + ")", x.tree(k), 2);
            due("held()", x.held(), 1);
        }
    }

    private static void throwsChangeNothing() {
        tested = "A call that throws changes nothing.";
        TreeSchool x = inUse();
        tell(x, " np");
        String before = portrait(x);
        dueNoSign(x, 0, 1, 9, 0);
        dueNoSign(x, 0, 1, 0, 9);
        dueNoTimes(x, 0, 9, 0);
        dueNoNode(x, 9, 0);
        dueNoNode(x, 0, 9);
        dueNoOctet(x, 2);
        dueNoOctet(x, -1);
        dueSame("calls that throw", x, before);
        due("the tape is as it was", x.category(), 4);
    }

    // Promises 13 to 17.

    private static void bracketsName() {
        tested = "The tape is a CATEGORY's NAME (blanks around it or not ..): the DRAWING has that BRACKET: true";
        String[] texts = {"np", " np", "np ", "\nnp\n", " \n \nnp \n ", " ".repeat(1538) + "np", "np" + "\n".repeat(1538)};
        for (String text : texts) {
            TreeSchool x = with(TOY, "the dog barks");
            dueBracket(x, text, 0, 2, true);
            due("brackets", x.count(4), 1);
            due("slips()", x.slips(), 5);
        }
        TreeSchool x = with("word a abcdefghij;rule abcdefghij=abcdefghij b;", "a");
        dueBracket(x, "abcdefghij", 0, 1, true);
        dueBracket(x, "b", 0, 1, true);
        due("slips()", x.slips(), 1);
    }

    private static void bracketOfNoCategory() {
        tested = "false: no CATEGORY";
        String[] none = {"", " ", "\n", "q", "dog", "n p", "np np", "npn", "p", "np0", "0np", "Np", "np;", "np\0", "\0np", "np\t",
            "word", "is", "abcdefghij", "abcdefghijk", "np.", ".np", "np,vp", "a".repeat(1540)};
        for (String text : none) {
            TreeSchool x = inUse();
            String before = portrait(x);
            dueBracket(x, text, 0, 1, false);
            dueSame("bracket() of [" + text + "]", x, before);
        }
    }

    private static void bracketWithoutASentence() {
        tested = "false: .. no sentence";
        TreeSchool x = new TreeSchool();
        dueBracket(x, "np", 0, 1, false);
        dueBracket(x, "", 0, 1, false);
        for (int i : ENDS) {
            x = with(TOY);
            for (int j : ENDS) {
                dueBracket(x, "np", i, j, false);
            }
            due("brackets", x.count(4), 0);
        }
        x = with(TOY, "the dog barks");
        dueBracket(x, "np", 0, 1, true);
        dueGrammar(x, TOY, 0, 9);
        dueBracket(x, "np", 0, 1, false);
        dueRead(x, ".", -1);
        dueBracket(x, "np", 0, 1, false);
        // A sentence that is not right has a drawing, too.
        dueRead(x, "q", 0);
        dueBracket(x, "np", 0, 1, true);
        dueBracket(x, "np", 0, 2, false);
        due("slips()", x.slips(), -1);
    }

    private static void bracketOfNoSpan() {
        tested = "false: .. not 0 <= i < j <= how many words";
        for (int words = 1; words <= 3; words++) {
            for (int i : ENDS) {
                TreeSchool x = with(TOY);
                dueRead(x, "q ".repeat(words), 0);
                int drawn = 0;
                for (int j : ENDS) {
                    boolean span = 0 <= i && i < j && j <= words;
                    dueBracket(x, "np", i, j, span);
                    drawn += span ? 1 : 0;
                    due("brackets", x.count(4), drawn);
                }
            }
        }
        TreeSchool x = with(PAIRS, "a ".repeat(14));
        dueBracket(x, "x", 13, 14, true);
        dueBracket(x, "x", 0, 14, true);
        dueBracket(x, "x", 14, 15, false);
        dueBracket(x, "x", 0, 15, false);
        dueBracket(x, "x", 14, 14, false);
        due("slips()", x.slips(), 25);
    }

    private static void wipes() {
        tested = "The DRAWING has no BRACKETS any more: how many it had.";
        due("wipe() of a new object", new TreeSchool().wipe(), 0);
        due("wipe() without a sentence", with(TOY).wipe(), 0);
        TreeSchool x = inUse();
        String before = portrait(x);
        due("wipe()", x.wipe(), 1);
        due("wipe()", x.wipe(), 0);
        dueSame("wipe()", x, before.replace("counts 5 4 6 3 1", "counts 5 4 6 3 0").replace("slips 7 held 7", "slips 6 held 6"));
        dueBracket(x, "vp", 0, 3, true);
        dueSame("the bracket drawn again", x, before);
        x = with(PAIRS, "a ".repeat(9));
        drawAll(x, "x", 9, 40);
        due("wipe()", x.wipe(), 40);
        due("slips()", x.slips(), 17);
        drawAll(x, "x", 9, 3);
        due("wipe()", x.wipe(), 3);
    }

    private static void wipeKeepsTheTape() {
        tested = "The DRAWING has no BRACKETS any more (and all else stays)";
        TreeSchool x = inUse();
        tell(x, "np");
        due("wipe()", x.wipe(), 1);
        due("bytes", x.count(6), 2);
        due("bracket(0, 2)", x.bracket(0, 2), true);
        due("held()", x.held(), 5);
        due("trees()", x.trees(), 1);
    }

    private static void leastSlips() {
        tested = "The least SLIPS of all TREES; NONE: there is none.";
        due("slips() of a new object", new TreeSchool().slips(), -1);
        due("slips() without a sentence", with(PAIRS).slips(), -1);
        TreeSchool x = with(PAIRS, "a");
        due("slips()", x.slips(), 1);
        dueBracket(x, "x", 0, 1, true);
        due("slips() may be 0", x.slips(), 0);
        dueRead(x, "b", 0);
        due("slips() of a sentence that is not right", x.slips(), -1);
        dueBracket(x, "x", 0, 1, true);
        due("slips() of a sentence that is not right", x.slips(), -1);
        dueRead(x, "a a a", 1);
        int[][] spans = {{1, 3}, {0, 2}, {0, 1}, {1, 2}, {2, 3}, {0, 3}};
        int[] due = {4, 5, 4, 3, 2, 1};
        for (int n = 0; n < 6; n++) {
            dueBracket(x, "x", spans[n][0], spans[n][1], true);
            due("slips()", x.slips(), due[n]);
            due("nodes at hand", x.count(5), 0);
        }
    }

    private static void slipsOfEachSign() {
        tested = "The least SLIPS of all TREES (of TREES with unlike SIGNS)";
        // Each value of y has its own least tree: 0 and 3 by the entry of z, 1 by that of y, 2 by that of w.
        String y = "word a x;word b y 0 1;word b z;word b w;rule z=w is 1 0 1;rule y=w is 0 0 2;rule y=z is 0 0 0;"
                + "rule y=z is 1 1 0 is 0 0 3;rule u=w;rule y=u is 0 0 3;";
        int[] least = {4, 3, 4, 4};
        int[] withZ = {3, 4, 5, 3};
        int[] nodes = {4, 3, 4, 4};
        for (int value = 0; value < 4; value++) {
            TreeSchool x = with("rule s=x y is 0 2 " + value + ";" + y, "a b");
            due("slips() of the value " + value, x.slips(), least[value]);
            dueBracket(x, "z", 1, 2, true);
            due("slips() of the value " + value, x.slips(), withZ[value]);
            due("mark() of the value " + value, x.mark(), nodes[value]);
            due("held() of the value " + value, x.held(), withZ[value]);
        }
    }

    private static void slipsOfMany() {
        tested = "The least SLIPS of all TREES (of 10^15 or more)";
        TreeSchool x = with("word a x;".repeat(40) + "rule x=x x;".repeat(30), "a ".repeat(14));
        due("slips()", x.slips(), 27);
        // One tree's nodes: those that begin with word 0, and each word.
        for (int j = 1; j <= 14; j++) {
            dueBracket(x, "x", 0, j, true);
        }
        for (int i = 1; i < 14; i++) {
            dueBracket(x, "x", i, i + 1, true);
        }
        due("slips()", x.slips(), 0);
        due("mark()", x.mark(), 27);
        due("held()", x.held(), 0);
        for (int m = 0; m < 14; m++) {
            due("the end of node " + m, x.node(m, 2), 14 - m);
        }
        due("tree(0)", x.tree(0), 27);
        due("held()", x.held(), 24);
    }

    private static void marks() {
        tested = "The first TREE in ORDER with least SLIPS is at hand: how many NODES it has";
        TreeSchool x = with("rule s=x x;word a x 0 1;word a x;word a x 0 0;rule x=y;word a y;", "a a");
        due("mark()", x.mark(), 3);
        due("first", x.node(1, 3), -1);
        due("second", x.node(2, 3), -1);
        dueBracket(x, "y", 1, 2, true);
        // A node more, which meets the bracket: nearer than the three entries ahead of it.
        due("slips()", x.slips(), 3);
        due("mark()", x.mark(), 4);
        due("second", x.node(2, 3), 1);
        dueBracket(x, "x", 0, 1, true);
        due("slips()", x.slips(), 2);
        due("mark()", x.mark(), 4);
        due("held()", x.held(), 2);
        due("first", x.node(1, 3), -1);
        x.wipe();
        due("mark()", x.mark(), 3);
    }

    private static void marksTheFirstOfEqual() {
        tested = "The first TREE in ORDER with least SLIPS (of several as near)";
        // Every tree of these has 9 nodes; brackets bar some and are met by others.
        TreeSchool x = with(PAIRS, "a a a a a");
        int[][][] drawings = {{}, {{0, 2}}, {{3, 5}}, {{1, 3}}, {{0, 2}, {1, 3}}, {{1, 4}, {0, 2}}, {{2, 4}, {0, 3}}};
        for (int[][] drawing : drawings) {
            x = with(PAIRS, "a a a a a");
            for (int[] b : drawing) {
                dueBracket(x, "x", b[0], b[1], true);
            }
            int least = x.slips();
            int first = -1;
            int lowest = 1000;
            for (int k = 0; k < 14; k++) {
                x.tree(k);
                int held = x.held();
                lowest = Math.min(lowest, held);
                first = first < 0 && held == least ? k : first;
            }
            due("slips()", least, lowest);
            x.tree(first);
            String before = portrait(x);
            x.tree(13 - first);
            due("mark()", x.mark(), 9);
            dueSame("the tree at hand by mark() and not by tree(" + first + ")", x, before);
        }
    }

    private static void marksNone() {
        tested = "mark: NONE: there is none.";
        due("mark() of a new object", new TreeSchool().mark(), -1);
        TreeSchool x = with(TOY);
        due("mark() without a sentence", x.mark(), -1);
        dueRead(x, "dog", 0);
        due("mark() of a sentence that is not right", x.mark(), -1);
        dueBracket(x, "n", 0, 1, true);
        due("mark() of a sentence that is not right", x.mark(), -1);
        due("nodes at hand", x.count(5), 0);
        due("held()", x.held(), -1);
    }

    private static void helds() {
        tested = "SLIPS of the TREE at hand; NONE: there is none at hand.";
        due("held() of a new object", new TreeSchool().held(), -1);
        TreeSchool x = with(PAIRS, "a a a");
        due("held() ahead of tree()", x.held(), -1);
        due("slips()", x.slips(), 5);
        due("held() behind slips()", x.held(), -1);
        due("tree(2)", x.tree(2), -1);
        due("held() behind a tree that is none", x.held(), -1);
        due("mark()", x.mark(), 5);
        due("held() behind mark()", x.held(), 5);
        dueBracket(x, "x", 0, 2, true);
        due("held() of a tree that does not have it", x.held(), 6);
        due("slips()", x.slips(), 4);
        due("held() behind slips()", x.held(), 6);
        due("tree(1)", x.tree(1), 5);
        due("held()", x.held(), 4);
        dueRead(x, ".", -1);
        due("held() behind no sentence", x.held(), 4);
        dueGrammar(x, ".", 1, -1);
        due("held() behind a fault", x.held(), 4);
        dueRead(x, "a", 1);
        due("held() behind a new sentence", x.held(), -1);
        due("tree(0)", x.tree(0), 1);
        dueBracket(x, "x", 0, 1, true);
        due("held() may be 0", x.held(), 0);
        dueGrammar(x, PAIRS, 0, 2);
        due("held() behind a new grammar", x.held(), -1);
    }

    // Promises 18 to 21.

    private static void names() {
        tested = "CATEGORY c's NAME is OUT: how many bytes; NONE: there is none such (OUT stays).";
        TreeSchool x = new TreeSchool();
        for (int c : ENDS) {
            due("name(" + c + ") of a new object", x.name(c), -1);
        }
        dueOut(x, "");
        x = with("word a abcdefghij;rule z=klmnopqrst uvwxyz;");
        String[] names = {"abcdefghij", "z", "klmnopqrst", "uvwxyz"};
        for (int c = 0; c < 4; c++) {
            due("name(" + c + ")", x.name(c), names[c].length());
            dueOut(x, names[c]);
            for (int none : new int[] {4, 5, 15, 16, -1, Integer.MAX_VALUE, Integer.MIN_VALUE}) {
                due("name(" + none + ")", x.name(none), -1);
            }
            dueOut(x, names[c]);
        }
        dueGrammar(x, "rule a=a;", 4, -1);
        due("name(3) behind a fault", x.name(3), 6);
        dueGrammar(x, "word q p;", 0, 1);
        dueOut(x, "uvwxyz");
        due("name(1) of the new grammar", x.name(1), -1);
        due("name(0) of the new grammar", x.name(0), 1);
        dueOut(x, "p");
    }

    private static void namesKeepTheRest() {
        tested = "CATEGORY c's NAME is OUT (and all else stays)";
        TreeSchool x = inUse();
        tell(x, "vp");
        String before = portrait(x);
        due("name(1)", x.name(1), 1);
        due("name(4)", x.name(4), 2);
        dueSame("name()", x, before);
        due("category()", x.category(), 5);
    }

    private static void categoryNumbers() {
        tested = "The number of the CATEGORY whose NAME the tape is; NONE.";
        String[] names = {"d", "n", "v", "s", "np", "vp"};
        TreeSchool x = with(TOY);
        for (int c = 0; c < 6; c++) {
            dueCategory(x, names[c], c);
            dueCategory(x, "\n " + names[c] + " \n", c);
        }
        dueCategory(x, " ".repeat(1540 - 2) + "vp", 5);
        dueCategory(x, "vp" + " ".repeat(1540 - 2), 5);
        String[] none = {"", " ", "\n".repeat(1540), "q", "dog", "barks", "npp", "p", "n p", "np np", "np1", "1", "NP", "np=", ";np",
            "word", "rule", "agree", "is", "abcdefghijk", "np\0", "np\r", "np\t", "\u00eep", "a".repeat(1540)};
        for (String text : none) {
            x = inUse();
            String before = portrait(x);
            dueCategory(x, text, -1);
            dueSame("category() of [" + text + "]", x, before);
        }
        dueCategory(new TreeSchool(), "d", -1);
        dueCategory(new TreeSchool(), "", -1);
        x = new TreeSchool();
        dueGrammar(x, "rule a=a;", 4, -1);
        dueCategory(x, "a", -1);
    }

    private static void categoryOfACutTape() {
        tested = "the CATEGORY whose NAME the tape is (its bytes alone)";
        TreeSchool x = with("word a ab;word a abc;");
        tell(x, "abcd");
        due("end(3)", x.end(3), true);
        due("category()", x.category(), 1);
        tell(x, "abcd");
        due("end(2)", x.end(2), true);
        due("category()", x.category(), 0);
        tell(x, "abcd");
        due("end(0)", x.end(0), true);
        due("category()", x.category(), -1);
        due("category() of the empty tape", x.category(), -1);
    }

    private static void octets() {
        tested = "Byte k of OUT. NoSuchElementException: there is none such.";
        TreeSchool x = new TreeSchool();
        for (int k : ENDS) {
            dueNoOctet(x, k);
        }
        x = with("word a abcdefghij;word a z;");
        dueNoOctet(x, 0);
        due("name(0)", x.name(0), 10);
        for (int k = 0; k < 10; k++) {
            due("octet(" + k + ")", x.octet(k), 'a' + k);
        }
        dueNoOctet(x, 10);
        due("name(1)", x.name(1), 1);
        due("octet(0)", x.octet(0), 'z');
        // The longer name ahead is gone.
        for (int k : new int[] {1, 2, 9, 10, -1, Integer.MAX_VALUE, Integer.MIN_VALUE}) {
            dueNoOctet(x, k);
        }
        due("octet(0)", x.octet(0), 'z');
    }

    private static void counts() {
        tested = "0 ENTRIES, 1 RULES, .. 7 of OUT. NONE for another what.";
        TreeSchool x = inUse();
        tell(x, "abc");
        dueCounts(x, 5, 4, 6, 3, 1, 6, 3, 2);
        for (int what : new int[] {8, 9, -1, -8, Integer.MAX_VALUE, Integer.MIN_VALUE}) {
            due("count(" + what + ")", x.count(what), -1);
        }
        x.end(0);
        x.wipe();
        dueCounts(x, 5, 4, 6, 3, 0, 6, 0, 2);
        x = new TreeSchool();
        dueCounts(x, 0, 0, 0, 0, 0, 0, 0, 0);
        due("count(8)", x.count(8), -1);
    }

    private static void countsAtTheirMost() {
        tested = "0 ENTRIES, 1 RULES, .. 7 of OUT (as many as there may be)";
        StringBuilder s = new StringBuilder("rule a=abcdefghij;");
        for (int c = 1; c < 15; c++) {
            s.append("rule ").append((char) ('a' + c)).append("=a a;");
        }
        s.append("rule a=a a;".repeat(15)).append("word x abcdefghij;".repeat(40));
        TreeSchool x = with(s.toString(), "x ".repeat(14));
        drawAll(x, "b", 14, 40);
        due("tree(0)", x.tree(0), 41);
        due("name(1)", x.name(1), 10);
        for (int n = 0; n < 77; n++) {
            x.feed(0, 0, 0, 0, 0);
        }
        dueCounts(x, 40, 30, 16, 14, 40, 41, 1540, 10);
    }

    // The object as a whole.

    private static void a512thCall() {
        tested = "An object is used for at most 512 calls after it has been made";
        TreeSchool x = new TreeSchool();
        // "word a x;rule x=x x;", then "a a a a"
        due("feed", x.feed(0x776f7264, 0x20612078, 0x3b72756c, 0x6520783d, 0x7820783b), 20);
        due("grammar()", x.grammar(), 2);
        due("feed", x.feed(0x61206120, 0x61206100, 0, 0, 0), 20);
        due("end(7)", x.end(7), true);
        due("read()", x.read(), 1);
        for (int call = 6; call <= 512; call++) {
            due("call " + call, x.tree(call % 5), 7);
        }
    }

    private static void readMe() {
        tested = "README.md: how to use it";
        TreeSchool school = new TreeSchool();
        due("feed", school.feed(0x776f7264, 0x20612078, 0x3b72756c, 0x6520783d, 0x7820783b), 20);
        due("grammar()", school.grammar(), 2);
        due("feed", school.feed(0x61206120, 0x61000000, 0, 0, 0), 20);
        due("end(5)", school.end(5), true);
        due("read()", school.read(), 1);
        due("trees()", school.trees(), 2);
        due("tree(1)", school.tree(1), 5);
        due("node(1, 2)", school.node(1, 2), 2);
        due("feed", school.feed(0x78000000, 0, 0, 0, 0), 20);
        due("end(1)", school.end(1), true);
        due("bracket(1, 3)", school.bracket(1, 3), true);
        due("slips()", school.slips(), 4);
        due("mark()", school.mark(), 5);
    }

    private static void dearCalls() {
        tested = "An object is used for at most 512 calls (of the dearest ones)";
        StringBuilder s = new StringBuilder("rule x=x x agree 0 0 1 agree 1 0 1 agree 2 0 1;".repeat(13));
        for (int e = 0; e < 40; e++) {
            s.append("word a x 0 ").append(e / 16).append(" 1 ").append(e / 4 % 4).append(" 2 ").append(e % 4).append(';');
        }
        TreeSchool x = with(s.toString(), "a ".repeat(14));
        due("trees()", x.trees(), MANY);
        due("signs(0, 14)", x.signs(0, 14), 40);
        drawAll(x, "x", 14, 3);
        for (int n = 0; n < 10; n++) {
            due("slips()", x.slips(), 24);
            due("mark()", x.mark(), 27);
            due("tree(999999)", x.tree(999999), 27);
        }
        due("held()", x.held() >= 24, true);
    }

    public static void main(String[] args) {
        bracketsUpTo40();
        bracketsOnce();
        slipsOfBrackets();
        slipsOfNodes();
        featuresAreNotDrawn();
        throwsChangeNothing();
        bracketsName();
        bracketOfNoCategory();
        bracketWithoutASentence();
        bracketOfNoSpan();
        wipes();
        wipeKeepsTheTape();
        leastSlips();
        slipsOfEachSign();
        slipsOfMany();
        marks();
        marksTheFirstOfEqual();
        marksNone();
        helds();
        names();
        namesKeepTheRest();
        categoryNumbers();
        categoryOfACutTape();
        octets();
        counts();
        countsAtTheirMost();
        a512thCall();
        readMe();
        dearCalls();
        finish("drawings, names and counts keep their boundaries");
    }
}
