/** The promises one by one: ordinary calls, the edges that the document names, and wrong input. */
public final class TreeSchoolPromises extends Bench {
    private static void newObject() {
        tested = "1 a new object";
        TreeSchool x = new TreeSchool();
        due("NONE", TreeSchool.NONE, -1);
        dueCounts(x, 0, 0, 0, 0, 0, 0, 0, 0);
        due("fault()", x.fault(), 0);
        due("trees()", x.trees(), 0);
        due("held()", x.held(), -1);
        due("slips()", x.slips(), -1);
        due("mark()", x.mark(), -1);
        due("tree(0)", x.tree(0), -1);
        due("wipe()", x.wipe(), 0);
        due("name(0)", x.name(0), -1);
        due("signs(0, 1)", x.signs(0, 1), -1);
        due("category()", x.category(), -1);
        due("bracket(0, 1)", x.bracket(0, 1), false);
        dueNoOctet(x, 0);
        dueNoNode(x, 0, 0);
        dueNoSign(x, 0, 1, 0, 0);
        dueNoTimes(x, 0, 1, 0);
        dueRead(x, "a", -1);
    }

    private static void feed() {
        tested = "2 feed";
        TreeSchool x = new TreeSchool();
        due("feed", x.feed(0x776f7264, 0x20616220, 0x63643b0a, 0x72756c65, 0x2063643d), 20);
        due("feed", x.feed(0x6364200a, 0x63643b00, 0, 0, 0), 40);
        due("end(27)", x.end(27), true);
        due("grammar()", x.grammar(), 2);
        due("name(0)", x.name(0), 2);
        dueOut(x, "cd");
        for (int n = 20; n <= 1540; n += 20) {
            due("feed", x.feed(-1, Integer.MIN_VALUE, Integer.MAX_VALUE, 0, 1), n);
        }
        due("feed of a full tape", x.feed(0, 0, 0, 0, 0), -1);
        due("bytes", x.count(6), 1540);
        due("end(1521)", x.end(1521), true);
        due("feed behind 1521", x.feed(0, 0, 0, 0, 0), -1);
        due("bytes", x.count(6), 1521);
        due("end(1520)", x.end(1520), true);
        due("feed behind 1520", x.feed(0, 0, 0, 0, 0), 1540);
    }

    private static void end() {
        tested = "3 end";
        TreeSchool x = new TreeSchool();
        due("end(0)", x.end(0), true);
        due("end(1)", x.end(1), false);
        x.feed(0x776f7264, 0x20612062, 0x3b3b3b3b, 0, 0);
        due("end(21)", x.end(21), false);
        due("end(-1)", x.end(-1), false);
        due("end of the least int", x.end(Integer.MIN_VALUE), false);
        due("end of the greatest int", x.end(Integer.MAX_VALUE), false);
        due("bytes", x.count(6), 20);
        due("end(20)", x.end(20), true);
        due("end(9)", x.end(9), true);
        due("bytes", x.count(6), 9);
        due("end(10)", x.end(10), false);
        due("grammar()", x.grammar(), 1);
    }

    private static void grammar() {
        tested = "4 grammar";
        TreeSchool x = with(TOY, "the dog barks");
        x.tree(0);
        x.name(4);
        dueBracket(x, "np", 0, 2, true);
        dueCounts(x, 5, 4, 6, 3, 1, 6, 0, 2);
        dueGrammar(x, "word a b; rule", 1, -15);
        dueCounts(x, 5, 4, 6, 3, 1, 6, 0, 2);
        due("held() behind a fault", x.held(), 5);
        due("trees() behind a fault", x.trees(), 1);
        due("slips() behind a fault", x.slips(), 5);
        due("tree(0) behind a fault", x.tree(0), 6);
        dueGrammar(x, "rule q=q q;", 0, 1);
        dueCounts(x, 0, 1, 1, 0, 0, 0, 0, 2);
        due("trees()", x.trees(), 0);
        due("held()", x.held(), -1);
        due("slips()", x.slips(), -1);
        due("signs(0, 1)", x.signs(0, 1), -1);
        dueNoNode(x, 0, 0);
        dueOut(x, "np");
        dueRead(x, "the dog barks", 0);
        dueGrammar(x, "\n word\na\nb\n;rule b = b\nc;\n\n", 0, 2);
        dueCounts(x, 1, 1, 2);
        // Of a feature told twice the last one counts.
        x = with("word a x 0 1 2 3 0 2 2 0;rule x=x x;", "a");
        dueSign(x, 0, 1, 0, 0, 2, -1, 0, -1);
        // Categories are numbered as they come first, those of entries and of rules alike.
        x = with("rule c=b a;word a d;word b a;rule e=c;");
        String names = "cbade";
        for (int c = 0; c < 5; c++) {
            dueCategory(x, names.substring(c, c + 1), c);
        }
        x = with("word c c;word a c;rule c=c c;");
        dueCategory(x, "a", -1);
    }

    private static void faultOfTokens() {
        tested = "5 fault, 1";
        dueFault("", 1, 0);
        dueFault("  \n ", 1, 4);
        dueFault("word", 1, 4);
        dueFault("word  ", 1, 6);
        dueFault("word a b;;", 1, 9);
        dueFault("word a b;a", 1, 9);
        dueFault("word a b = ;", 1, 9);
        dueFault("word a b c;", 1, 9);
        dueFault("word agree b;", 1, 5);
        dueFault("word a is;", 1, 7);
        dueFault("word a b 1;", 1, 10);
        dueFault("word a b 1 a;", 1, 11);
        dueFault("word a b 1 11;", 1, 11);
        dueFault("word a b 1x 1;", 1, 9);
        dueFault("word a b1;", 1, 7);
        dueFault("word a 1;", 1, 7);
        dueFault("word A b;", 1, 5);
        dueFault("word a b.;", 1, 8);
        dueFault("word a\tb;", 1, 6);
        dueFault("word a\u00e9b;", 1, 6);
        dueFault("word a\0b;", 1, 6);
        dueFault("word abcdefghijk b;", 1, 5);
        dueFault("words a b;", 1, 0);
        dueFault("rule a;", 1, 6);
        dueFault("rule a=;", 1, 7);
        dueFault("rule word=a;", 1, 5);
        dueFault("rule a==b;", 1, 7);
        dueFault("rule a=b c d;", 1, 11);
        dueFault("rule a=is 0 0 0;", 1, 7);
        dueFault("rule a=b agree 0 0;", 1, 18);
        dueFault("rule a=b agree 0 0 1 2;", 1, 21);
        dueFault("rule a=b 0;", 1, 9);
        dueFault("rule a=b is 0 0 1 c;", 1, 18);
        dueFault("rule a=b word c d;", 1, 9);
        dueFault("rule a=b is is 0 0 1;", 1, 12);
        dueFault("=".repeat(1500), 1, 0);
        // Bytes behind the tape's end are none of it.
        TreeSchool x = new TreeSchool();
        tell(x, "word a bcdefghijklmnopqrst;");
        due("end(9)", x.end(9), true);
        due("grammar() of a cut tape", x.grammar(), -10);
        tell(x, "word a bcd    ef;");
        due("end(10)", x.end(10), true);
        due("grammar() of a cut tape", x.grammar(), -11);
        // A loop is told only if there is nothing else.
        dueFault("rule a=a;x", 1, 9);
    }

    private static void faultOfNumbers() {
        tested = "5 fault, 2";
        dueFault("word a b 4 0;", 2, 9);
        dueFault("word a b 3 3 0 4;", 2, 15);
        dueFault("word a b 9 x;", 2, 9);
        dueFault("rule a=b agree 4 0 1;", 2, 15);
        dueFault("rule a=b agree 0 2 0;", 2, 17);
        dueFault("rule a=b agree 0 0 2;", 2, 19);
        dueFault("rule a=b agree 0 0 0;", 2, 19);
        dueFault("rule a=b c agree 0 2 2;", 2, 21);
        dueFault("rule a=b c agree 0 3 0;", 2, 19);
        dueFault("rule a=b c agree 0 0 3;", 2, 21);
        dueFault("rule a=b is 4 0 0;", 2, 12);
        dueFault("rule a=b is 0 2 0;", 2, 14);
        dueFault("rule a=b is 0 0 4;", 2, 16);
        dueFault("rule a=b c is 0 3 0;", 2, 16);
        dueFault("rule a=a is 0 0 4;", 2, 16);
        with("rule a=b c is 3 2 3 is 0 0 0 agree 3 2 1 agree 0 1 0;word a b 3 3;");
    }

    private static void faultOfNumbersOfThings() {
        tested = "5 fault, 3";
        String word = "word a b;";
        String rule = "rule a=b c;";
        String forty = word.repeat(40);
        with(forty);
        dueFault(forty + word, 3, 360);
        dueFault(forty + "word;", 3, 360);
        dueFault(forty + "wort a b;", 1, 360);
        String thirty = rule.repeat(30);
        with(thirty + forty);
        dueFault(thirty + forty + "rule 1", 3, 690);
        dueFault(thirty + rule, 3, 330);
        String law = " is 0 0 0 agree 0 0 1";
        with("rule a=b" + law.repeat(4) + ";");
        dueFault("rule a=b" + law.repeat(4) + " is 0 0 0;", 3, 93);
        dueFault("rule a=b" + law.repeat(4) + " agree 9 9 9;", 3, 93);
        dueFault("rule a=b" + law.repeat(4) + " b 0 0 0;", 1, 93);
        // Each rule has laws of its own.
        with(("rule a=b" + law.repeat(4) + ";").repeat(2));
        StringBuilder sixteen = new StringBuilder();
        for (char c = 'a'; c <= 'p'; c++) {
            sixteen.append("word w ").append(c).append(';');
        }
        with(sixteen.toString() + "word q p;rule a=p p;");
        dueFault(sixteen + "word w q;", 3, 151);
        dueFault(sixteen + "rule q=a;", 3, 149);
        dueFault(sixteen + "rule a=q;", 3, 151);
        dueFault(sixteen + "rule a=b q;", 3, 153);
        dueFault(sixteen + "word w 1;", 1, 151);
    }

    private static void faultOfLoops() {
        tested = "5 fault, 4";
        dueFault("rule a=a;", 4, 0);
        dueFault("word a a; rule a=a;", 4, 10);
        dueFault("rule a=b;rule c=c;rule b=a;", 4, 0);
        dueFault("rule z=a;rule a=b;rule b=c;rule c=a;", 4, 9);
        dueFault("rule z=z a;rule b=a;rule a=b is 0 1 0 is 0 1 1;", 4, 11);
        with("rule a=b;rule b=c;rule a=c;rule c=a a;rule c=a b;rule a=a a;");
        // A rule of two parts leads nowhere by itself, even if it comes first.
        dueFault("rule c=a c;rule a=b;rule b=c;rule c=b;", 4, 20);
        TreeSchool x = with("rule a=b;");
        dueGrammar(x, "rule a=a;", 4, -1);
        dueCounts(x, 0, 1, 2);
        dueGrammar(x, "rule a=b;", 0, 1);
    }

    private static void faultOfLength() {
        tested = "5 fault, 1500 bytes";
        String item = "word a b;";
        dueGrammar(new TreeSchool(), item + " ".repeat(1491), 0, 1);
        dueFault(item + " ".repeat(1492), 1, 1500);
        dueFault(item + " ".repeat(1531), 1, 1500);
        dueFault(" ".repeat(1500), 1, 1500);
        dueFault(" ".repeat(1540), 1, 1500);
        dueGrammar(new TreeSchool(), " ".repeat(1491) + item, 0, 1);
        dueFault(" ".repeat(1492) + item, 1, 1500);
        dueFault(" ".repeat(1495) + "word a b;", 1, 1500);
        dueFault("  " + " ".repeat(1490) + "word a b", 1, 1500);
        dueFault(" ".repeat(1491) + "word a b", 1, 1499);
        // A token that begins ahead of byte 1500 is read whole.
        dueFault(" ".repeat(1494) + "wordwordwo a b;", 1, 1494);
        dueFault(" ".repeat(1490) + "word abcdefghijk b;", 1, 1495);
        dueFault(" ".repeat(1490) + "word abcdefghij b;", 1, 1500);
        dueFault(" ".repeat(1490) + "word a b 4 0;", 2, 1499);
        dueFault(" ".repeat(1491) + "word a b 4 0;", 1, 1500);
        dueFault(" ".repeat(1488) + "rule a=a; ;;", 1, 1498);
        dueFault(" ".repeat(1490) + "rule a=a;     ", 1, 1500);
        dueFault("a".repeat(1540), 1, 0);
        dueFault(" ".repeat(1499) + "a".repeat(41), 1, 1499);
        dueFault("word a b " + "0 0 ".repeat(382) + "0 0", 1, 1500);
        dueFault("word a b " + "0 0 ".repeat(372) + "0 0", 1, 1500);
        dueGrammar(new TreeSchool(), "word a b" + " 0 0".repeat(372) + "  ;", 0, 1);
        dueFault("word a b;".repeat(40) + " ".repeat(1136) + "word a b;", 3, 1496);
        dueFault("word a b;".repeat(40) + " ".repeat(1139) + "word a b;", 3, 1499);
        dueFault("word a b;".repeat(40) + " ".repeat(1140) + "word a b;", 1, 1500);
    }

    private static void fault() {
        tested = "5 fault";
        TreeSchool x = new TreeSchool();
        dueGrammar(x, "rule a=b is 7 0 0;", 2, -13);
        dueRead(x, "a", -1);
        due("fault() behind other calls", x.fault(), 2);
        dueGrammar(x, "rule a=b;", 0, 1);
        due("fault()", x.fault(), 0);
        dueGrammar(x, "rule a=b", 1, -9);
        due("fault()", x.fault(), 1);
    }

    private static void read() {
        tested = "6 read";
        TreeSchool x = with(TOY, " the\ndog  barks\n");
        dueRead(x, "the dogs bark", 1);
        dueRead(x, "dogs bark", 1);
        dueRead(x, "dog barks", 0);
        dueRead(x, "the dog bark", 0);
        dueRead(x, "word rule agree is", 0);
        dueCounts(x, 5, 4, 6, 4);
        dueRead(x, "zzzzzzzzzz", 0);
        dueRead(x, "the dog barks", 1);
        x.tree(0);
        dueBracket(x, "s", 0, 3, true);
        String[] none = {"", " ", "\n", "the dog 1", "the dog2 barks", "The dog", "the;dog", "abcdefghijk", "the\tdog",
            "the dog \u00e1", "a ".repeat(15), "a".repeat(1540), "a" + " ".repeat(1500)};
        for (String text : none) {
            dueRead(x, text, -1);
            dueCounts(x, 5, 4, 6, 3, 1, 6, 0);
        }
        due("held()", x.held(), 5);
        due("slips()", x.slips(), 5);
        dueRead(x, "a" + " ".repeat(1499), 0);
        dueCounts(x, 5, 4, 6, 1, 0, 0, 0);
        dueRead(x, "a ".repeat(14), 0);
        due("words", x.count(3), 14);
        dueRead(x, "the dog barks", 1);
        x.mark();
        dueBracket(x, "s", 0, 3, true);
        dueRead(x, "barks", 0);
        dueCounts(x, 5, 4, 6, 1, 0, 0, 0);
        x = with("word a b;");
        dueRead(x, "a", -1);
        x = new TreeSchool();
        dueRead(x, "a", -1);
    }

    private static String cross(int left, int right) {
        StringBuilder s = new StringBuilder("rule s=x y agree 0 0 1 agree 1 0 1 agree 2 0 2 agree 3 0 2;");
        for (int n = 0; n < left; n++) {
            s.append("word a x 0 ").append(n / 4).append(" 1 ").append(n % 4).append(';');
        }
        for (int n = 0; n < right; n++) {
            s.append("word b y 2 ").append(n / 4).append(" 3 ").append(n % 4).append(';');
        }
        return s.toString();
    }

    private static void large() {
        tested = "6 read, LARGE";
        TreeSchool x = with(cross(6, 10), "a b");
        due("signs(0, 2)", x.signs(0, 2), 60);
        due("trees()", x.trees(), 60);
        dueSign(x, 0, 2, 0, 0, 0, 0, 0, 0);
        dueSign(x, 0, 2, 59, 0, 1, 1, 2, 1);
        dueNoSign(x, 0, 2, 60, 0);
        dueRead(x, "c a b", 0);
        due("signs(1, 3)", x.signs(1, 3), 60);
    }

    private static void larger() {
        tested = "6 read, LARGE";
        TreeSchool x = new TreeSchool();
        // Signs of another category come behind the sixty.
        dueGrammar(x, cross(6, 10) + "rule z=s;", 0, 18);
        dueRead(x, "a", 0);
        dueRead(x, "a b", -2);
        dueCounts(x, 16, 2, 4, 0, 0, 0, 0);
        String sixtyFirst = "rule z=s is 0 1 0 is 1 1 0 is 2 1 0 is 3 1 0;";
        dueRead(with(cross(6, 10) + sixtyFirst), "a b", -2);
        dueRead(with(cross(6, 10) + sixtyFirst.replace("3 1 0", "3 1 1 is 3 1 2")), "a b", 1);
        x = with(cross(8, 8));
        dueRead(x, "b a", 0);
        x.tree(0);
        dueBracket(x, "x", 1, 2, true);
        dueRead(x, "q q a b q", -2);
        dueCounts(x, 16, 1, 3, 0, 0, 0, 0);
        due("trees()", x.trees(), 0);
        due("slips()", x.slips(), -1);
        due("mark()", x.mark(), -1);
        due("held()", x.held(), -1);
        due("signs(0, 1)", x.signs(0, 1), -1);
        due("tree(0)", x.tree(0), -1);
        dueBracket(x, "x", 0, 1, false);
        dueNoSign(x, 0, 1, 0, 0);
        dueRead(x, "", -1);
        due("words", x.count(3), 0);
        dueRead(x, "a", 0);
        due("signs(0, 1)", x.signs(0, 1), 8);
    }

    private static void laws() {
        tested = "6 read, laws";
        // agree hands a value on, law by law: feature 0 goes 2, 1, 0.
        TreeSchool x = with("word a x;word b y 0 2;rule s=x y agree 0 1 2 agree 0 0 1;", "a b");
        dueSign(x, 0, 2, 0, 2, 2, -1, -1, -1);
        // In the other order the whole gets nothing.
        x = with("word a x;word b y 0 2;rule s=x y agree 0 0 1 agree 0 1 2;", "a b");
        dueSign(x, 0, 2, 0, 2, -1, -1, -1, -1);
        // The parts stay as they were.
        x.tree(0);
        dueNode(x, 1, 0, 0, 1, -1, 1, -1, -1, -1, -1);
        x = with("word a x 1 1;rule s=x is 1 1 1 is 2 0 3 agree 2 0 1;", "a");
        dueSign(x, 0, 1, 1, 1, -1, -1, 3, -1);
        dueRead(with("word a x 1 1;rule s=x is 1 1 0;"), "a", 0);
        dueRead(with("word a x;rule s=x is 1 1 0 is 1 1 1;"), "a", 0);
        dueRead(with("word a x;rule s=x is 1 0 0 is 1 1 1 agree 1 0 1;"), "a", 0);
        dueRead(with("word a x;rule s=x is 1 0 1 is 1 1 1 agree 1 0 1;"), "a", 1);
        dueRead(with("word a x 3 0;word b y 3 1;rule s=x y agree 3 2 1;"), "a b", 0);
        dueRead(with("word a x 3 0;word b y 3 1;rule s=x y agree 2 2 1;"), "a b", 1);
        // Root is the category of rule 0, also if an entry has it.
        dueRead(with("word a s;rule s=x x;"), "a", 1);
        dueRead(with("word a x;rule s=x x;rule x=x x;"), "a", 0);
    }

    private static String chain() {
        StringBuilder s = new StringBuilder();
        for (char c = 'a'; c < 'p'; c++) {
            s.append("rule ").append(c).append('=').append((char) (c + 1)).append(';');
        }
        return s.append("rule p=a a;word x p;").toString();
    }

    private static void trees() {
        tested = "7 trees";
        TreeSchool x = with("word a x;rule x=x x;");
        long[] catalan = {1, 1, 2, 5, 14, 42, 132, 429, 1430, 4862, 16796, 58786, 208012, 742900};
        for (int n = 1; n <= 14; n++) {
            dueRead(x, "a ".repeat(n), 1);
            due("trees() of " + n, x.trees(), catalan[n - 1]);
        }
        dueRead(x, "b", 0);
        due("trees()", x.trees(), 0);
        // 10^14 for the words, times the rules of root.
        String ten = "word a x;".repeat(10) + "rule r=x;rule r=x r;";
        for (int n = 1; n <= 12; n++) {
            x = with("rule q=r;".repeat(n) + ten, "a ".repeat(14));
            due("trees() of " + n, x.trees(), Math.min(MANY, n * (MANY / 10)));
            due("times(0, 14, 0)", x.times(0, 14, 0), Math.min(MANY, n * (MANY / 10)));
        }
        // Signs of root below the bound that are above it together.
        x = with("rule q=r is 0 0 0;".repeat(6) + "rule q=r is 0 0 1;".repeat(5) + ten, "a ".repeat(14));
        due("trees()", x.trees(), MANY);
        due("times(0, 14, 0)", x.times(0, 14, 0), 6 * (MANY / 10));
        due("times(0, 14, 1)", x.times(0, 14, 1), 5 * (MANY / 10));
        x = with("word a x;".repeat(40) + "rule x=x x;".repeat(29), "a ".repeat(14));
        due("trees()", x.trees(), MANY);
        due("tree(999999)", x.tree(999999), 27);
        due("tree(1000000)", x.tree(1000000), -1);
        due("slips()", x.slips(), 27);
        due("mark()", x.mark(), 27);
    }

    private static void signs() {
        tested = "8 signs";
        TreeSchool x = with(TOY, "the dog barks");
        int[][] due = {{0, 1, 1}, {1, 2, 1}, {2, 3, 2}, {0, 2, 1}, {1, 3, 0}, {0, 3, 1}, {0, 4, -1}, {1, 1, -1}, {2, 1, -1},
            {-1, 1, -1}, {0, 0, -1}, {3, 4, -1}, {Integer.MIN_VALUE, 1, -1}, {0, Integer.MAX_VALUE, -1},
            {Integer.MAX_VALUE, Integer.MIN_VALUE, -1}, {Integer.MIN_VALUE, Integer.MAX_VALUE, -1}};
        for (int[] d : due) {
            due("signs(" + d[0] + ", " + d[1] + ")", x.signs(d[0], d[1]), d[2]);
        }
        dueRead(x, "dogs", 0);
        due("signs(0, 1)", x.signs(0, 1), 2);
    }

    private static void sign() {
        tested = "9 sign";
        String told = "word a y 0 1;word a y;word a x 3 0;word a y 1 0;word a y 0 0;word a x 2 3;word a y 0 0 1 2;"
                + "word a y 0 1;rule s=y is 0 1 0;";
        TreeSchool x = with(told, "a");
        due("signs(0, 1)", x.signs(0, 1), 8);
        int[][] due = {{0, -1, -1, -1, -1}, {0, -1, 0, -1, -1}, {0, 0, -1, -1, -1}, {0, 0, 2, -1, -1}, {0, 1, -1, -1, -1},
            {1, -1, -1, -1, 0}, {1, -1, -1, 3, -1}, {2, -1, -1, -1, -1}};
        for (int k = 0; k < 8; k++) {
            dueSign(x, 0, 1, k, due[k]);
        }
        due("times of the sign told twice", x.times(0, 1, 4), 2);
        due("times of s", x.times(0, 1, 7), 4);
        dueNoSign(x, 0, 1, 8, 0);
        dueNoSign(x, 0, 1, -1, 0);
        dueNoSign(x, 0, 1, 0, 5);
        dueNoSign(x, 0, 1, 0, -1);
        dueNoSign(x, 0, 2, 0, 0);
        dueNoSign(x, 1, 1, 0, 0);
        dueNoSign(x, -1, 1, 0, 0);
        dueNoSign(x, 0, 1, Integer.MAX_VALUE, 0);
        dueNoSign(x, Integer.MIN_VALUE, Integer.MAX_VALUE, Integer.MIN_VALUE, Integer.MAX_VALUE);
        dueSign(x, 0, 1, 0, due[0]);
    }

    private static void times() {
        tested = "10 times";
        TreeSchool x = with("word a x;word a x 0 1;rule x=x x agree 0 0 1;", "a a a");
        // By the first word's value; the others are free.
        due("times(0, 3, 0)", x.times(0, 3, 0), 8);
        due("times(0, 3, 1)", x.times(0, 3, 1), 8);
        due("times(1, 2, 1)", x.times(1, 2, 1), 1);
        due("trees()", x.trees(), 16);
        dueNoTimes(x, 0, 3, 2);
        dueNoTimes(x, 0, 3, -1);
        dueNoTimes(x, 0, 4, 0);
        dueNoTimes(x, 3, 3, 0);
        dueNoTimes(x, Integer.MAX_VALUE, Integer.MAX_VALUE, Integer.MAX_VALUE);
    }

    private static void tree() {
        tested = "11 tree";
        TreeSchool x = with("word a x;rule x=x x;", "a a a a");
        int[][] firstSplits = {{4, 1, 4}, {4, 1, 4}, {4, 2, 1}, {4, 3, 1}, {4, 3, 2}};
        for (int k = 0; k < 5; k++) {
            due("tree(" + k + ")", x.tree(k), 7);
            due("top's end", x.node(0, 2), firstSplits[k][0]);
            due("first part's end", x.node(1, 2), firstSplits[k][1]);
            due("next node's end", x.node(2, 2), firstSplits[k][2]);
        }
        int[] none = {5, -1, 1000000, Integer.MAX_VALUE, Integer.MIN_VALUE};
        for (int k : none) {
            due("tree(" + k + ")", x.tree(k), -1);
            due("nodes at hand", x.count(5), 7);
            due("first part's end", x.node(1, 2), 3);
        }
        dueRead(x, "b a", 0);
        due("tree(0)", x.tree(0), -1);
        due("nodes at hand", x.count(5), 0);
        // Trees of unlike signs stand mixed in the order: the first part goes ahead of the second.
        x = with("word a x 0 1;word a x 0 0;word a x;word b y 0 0;word b y 0 1;word b y;rule s=x y agree 0 1 2 agree 0 0 1;",
                "a b");
        int[][] pairs = {{-1, -5}, {-1, -6}, {-2, -4}, {-2, -6}, {-3, -4}, {-3, -5}, {-3, -6}};
        due("trees()", x.trees(), 7);
        for (int k = 0; k < 7; k++) {
            due("tree(" + k + ")", x.tree(k), 3);
            due("first entry of " + k, x.node(1, 3), pairs[k][0]);
            due("second entry of " + k, x.node(2, 3), pairs[k][1]);
        }
        // Entries ahead of rules, rules by number, then by the split.
        x = with("rule s=t;rule s=s s;rule s=x;word a x;word a s;word a t;", "a");
        int[] by = {-2, 0, 2};
        for (int k = 0; k < 3; k++) {
            x.tree(k);
            due("what made tree " + k, x.node(0, 3), by[k]);
        }
        x = with(chain(), "x ".repeat(14));
        due("trees()", x.trees(), 742900);
        due("tree(742899)", x.tree(742899), 432);
        due("depth of the deepest", x.node(223, 4), 223);
        due("tree(742900)", x.tree(742900), -1);
        due("tree(0)", x.tree(0), 432);
        due("depth of the last", x.node(431, 4), 223);
        due("mark()", x.mark(), 432);
    }

    private static void node() {
        tested = "12 node";
        TreeSchool x = with(TOY, "the dogs bark");
        dueNoNode(x, 0, 0);
        due("tree(0)", x.tree(0), 6);
        dueNode(x, 0, 3, 0, 3, 0, 0, -1, -1, -1, -1);
        dueNode(x, 1, 4, 0, 2, 1, 1, 1, -1, -1, -1);
        dueNode(x, 2, 0, 0, 1, -1, 2, -1, -1, -1, -1);
        dueNode(x, 3, 1, 1, 2, -3, 2, 1, -1, -1, -1);
        dueNode(x, 4, 5, 2, 3, 3, 1, 1, -1, -1, -1);
        dueNode(x, 5, 2, 2, 3, -5, 2, 1, -1, -1, -1);
        int[][] none = {{6, 0}, {-1, 0}, {0, 9}, {0, -1}, {Integer.MAX_VALUE, 0}, {Integer.MIN_VALUE, 8},
            {0, Integer.MAX_VALUE}, {5, Integer.MIN_VALUE}};
        for (int[] n : none) {
            dueNoNode(x, n[0], n[1]);
        }
        dueNode(x, 5, 2, 2, 3, -5, 2, 1, -1, -1, -1);
        x = with("word a x 0 0 1 1 2 2 3 3;rule s=x;", "a");
        x.tree(0);
        dueNode(x, 1, 0, 0, 1, -1, 1, 0, 1, 2, 3);
    }

    private static void bracket() {
        tested = "13 bracket";
        TreeSchool x = with(TOY);
        dueBracket(x, "np", 0, 1, false);
        dueRead(x, "the dog barks", 1);
        dueBracket(x, " \nnp\n ", 0, 2, true);
        dueBracket(x, "np", 0, 2, false);
        dueBracket(x, "np", 0, 3, true);
        dueBracket(x, "vp", 0, 2, true);
        String[] names = {"", " ", "n p", "np vp", "npp", "dog", "np1", "Np", "np;", "abcdefghijk", "word"};
        for (String name : names) {
            dueBracket(x, name, 1, 3, false);
        }
        int[][] spans = {{0, 4}, {1, 1}, {2, 1}, {-1, 2}, {3, 4}, {Integer.MIN_VALUE, 3}, {0, Integer.MAX_VALUE},
            {Integer.MAX_VALUE, Integer.MIN_VALUE}};
        for (int[] s : spans) {
            dueBracket(x, "np", s[0], s[1], false);
        }
        due("brackets", x.count(4), 3);
        dueBracket(x, " ".repeat(1500) + "d" + " ".repeat(39), 2, 3, true);
        x = with("word a x;rule x=x x;rule y=x z;", "a ".repeat(9));
        int drawn = 0;
        for (int i = 0; i < 9; i++) {
            for (int j = i + 1; j <= 9; j++) {
                dueBracket(x, "y", i, j, drawn < 40);
                drawn++;
            }
        }
        due("brackets", x.count(4), 40);
        due("slips()", x.slips(), 57);
        due("wipe()", x.wipe(), 40);
        dueBracket(x, "y", 8, 9, true);
        due("slips()", x.slips(), 18);
    }

    private static void wipe() {
        tested = "14 wipe";
        TreeSchool x = with(TOY, "the dog barks");
        x.tree(0);
        dueBracket(x, "s", 0, 3, true);
        dueBracket(x, "d", 1, 2, true);
        due("slips()", x.slips(), 6);
        due("wipe()", x.wipe(), 2);
        due("brackets", x.count(4), 0);
        due("slips()", x.slips(), 6);
        due("held()", x.held(), 6);
        due("nodes at hand", x.count(5), 6);
        due("wipe()", x.wipe(), 0);
        dueBracket(x, "s", 0, 3, true);
        due("slips()", x.slips(), 5);
    }

    private static void slips() {
        tested = "15 slips";
        TreeSchool x = with("word a x;rule x=x x;rule x=y;rule z=x x;word a y;", "a a a");
        due("slips()", x.slips(), 5);
        dueBracket(x, "y", 0, 1, true);
        due("slips() with a way round", x.slips(), 5);
        dueBracket(x, "x", 0, 1, true);
        due("slips()", x.slips(), 4);
        dueBracket(x, "x", 1, 3, true);
        due("slips()", x.slips(), 3);
        dueBracket(x, "x", 0, 2, true);
        due("slips()", x.slips(), 4);
        dueBracket(x, "z", 0, 3, true);
        due("slips()", x.slips(), 5);
        due("nothing at hand", x.count(5), 0);
        dueRead(x, "b", 0);
        due("slips()", x.slips(), -1);
        dueBracket(x, "x", 0, 1, true);
        due("slips()", x.slips(), -1);
    }

    private static void mark() {
        tested = "16 mark";
        TreeSchool x = with("word a x;rule x=x x;", "a a a a");
        due("mark()", x.mark(), 7);
        due("the first of all", x.node(1, 2), 1);
        due("the first of all", x.node(4, 1), 2);
        dueBracket(x, "x", 0, 3, true);
        due("the one at hand stays", x.node(1, 2), 1);
        due("mark()", x.mark(), 7);
        due("first part's end", x.node(1, 2), 3);
        due("the first of the two", x.node(2, 2), 1);
        due("held()", x.held(), 6);
        dueBracket(x, "x", 0, 2, true);
        due("mark()", x.mark(), 7);
        due("next node's end", x.node(2, 2), 2);
        due("held()", x.held(), 5);
        dueRead(x, "b", 0);
        due("mark()", x.mark(), -1);
        // The nearest tree may need a first part that is not the nearest by itself.
        x = with("word a x 0 0;word a u 0 1;rule s=x y agree 0 1 2;rule x=u agree 0 0 1;word b y 0 1;", "a b");
        dueBracket(x, "x", 0, 1, true);
        due("slips()", x.slips(), 3);
        due("mark()", x.mark(), 4);
        due("made by", x.node(1, 3), 1);
        // Of trees as near, the first in the order, whatever its sign.
        x = with("rule s=x;word a x 0 3;word a x;word a x 0 1;", "a");
        due("mark()", x.mark(), 2);
        due("made by", x.node(1, 3), -1);
        due("value", x.node(1, 5), 3);
    }

    private static void held() {
        tested = "17 held";
        TreeSchool x = with("word a x;rule x=x x;", "a a a a");
        due("held()", x.held(), -1);
        dueBracket(x, "x", 0, 3, true);
        dueBracket(x, "x", 1, 3, true);
        int[] due = {9, 7, 9, 5, 7};
        for (int k = 0; k < 5; k++) {
            x.tree(k);
            due("held() of " + k, x.held(), due[k]);
        }
        x.wipe();
        due("held()", x.held(), 7);
        dueRead(x, "a", 1);
        due("held()", x.held(), -1);
    }

    private static void name() {
        tested = "18 name";
        TreeSchool x = with("word a abcdefghij;rule z=yx abcdefghij;");
        due("name(0)", x.name(0), 10);
        dueOut(x, "abcdefghij");
        due("name(2)", x.name(2), 2);
        dueOut(x, "yx");
        int[] none = {3, -1, 16, Integer.MAX_VALUE, Integer.MIN_VALUE};
        for (int c : none) {
            due("name(" + c + ")", x.name(c), -1);
            dueOut(x, "yx");
        }
        due("name(1)", x.name(1), 1);
        dueOut(x, "z");
        dueGrammar(x, "rule p=q;", 0, 1);
        dueOut(x, "z");
    }

    private static void category() {
        tested = "19 category";
        TreeSchool x = with(TOY);
        dueCategory(x, "d", 0);
        dueCategory(x, "\n vp \n\n", 5);
        dueCategory(x, " ".repeat(1538) + "np", 4);
        String[] none = {"", " ", "a".repeat(1540), "dog", "npx", "p", "n p", "np np", "np=", "np0", "NP", "abcdefghijklm", "np\0", "word"};
        for (String text : none) {
            dueCategory(x, text, -1);
        }
        dueCategory(new TreeSchool(), "d", -1);
    }

    private static void octet() {
        tested = "20 octet";
        TreeSchool x = with("word a azm;");
        dueOut(x, "");
        x.name(0);
        dueOut(x, "azm");
    }

    private static void count() {
        tested = "21 count";
        TreeSchool x = with(TOY, "the dog barks");
        x.tree(0);
        x.name(5);
        dueBracket(x, "s", 0, 3, true);
        x.feed(0, 0, 0, 0, 0);
        dueCounts(x, 5, 4, 6, 3, 1, 6, 20, 2);
        int[] none = {8, -1, Integer.MAX_VALUE, Integer.MIN_VALUE};
        for (int what : none) {
            due("count(" + what + ")", x.count(what), -1);
        }
    }

    public static void main(String[] args) {
        newObject();
        feed();
        end();
        grammar();
        faultOfTokens();
        faultOfNumbers();
        faultOfNumbersOfThings();
        faultOfLoops();
        faultOfLength();
        fault();
        read();
        large();
        larger();
        laws();
        trees();
        signs();
        sign();
        times();
        tree();
        node();
        bracket();
        wipe();
        slips();
        mark();
        held();
        name();
        category();
        octet();
        count();
        finish("all promises are kept");
    }
}
