import java.util.NoSuchElementException;

/** What the tests share: texts told over the tape, and answers held against those that are due. */
abstract class Bench {
    static final long MANY = 1000000000000000L;
    static final String TOY = "word the d;word dog n 0 0;word dogs n 0 1;word barks v 0 0;word bark v 0 1;"
            + "rule s=np vp agree 0 1 2;rule np=d n agree 0 0 2;rule np=n agree 0 0 1 is 0 1 1;rule vp=v agree 0 0 1;";

    static int wrong = 0;
    // What is being tested: a promise, or a sentence of the document.
    static String tested = "";

    static void due(String what, long got, long want) {
        if (got != want) {
            wrong++;
            System.out.println(tested + ": " + what + " answered " + got + ", due is " + want);
        }
    }

    static void due(String what, boolean got, boolean want) {
        due(what, got ? 1 : 0, want ? 1 : 0);
    }

    static void tell(TreeSchool x, String text) {
        int before = x.count(6);
        for (int p = 0; p < text.length(); p += 20) {
            int[] n = new int[5];
            for (int k = 0; k < 20; k++) {
                n[k / 4] = n[k / 4] << 8 | (p + k < text.length() ? text.charAt(p + k) : 0);
            }
            x.feed(n[0], n[1], n[2], n[3], n[4]);
        }
        due("end of [" + text + "]", x.end(before + text.length()), true);
    }

    static TreeSchool with(String grammar) {
        TreeSchool x = new TreeSchool();
        dueGrammar(x, grammar, 0, grammar.length() - grammar.replace(";", "").length());
        return x;
    }

    static TreeSchool with(String grammar, String sentence) {
        TreeSchool x = with(grammar);
        dueRead(x, sentence, 1);
        return x;
    }

    static void dueGrammar(TreeSchool x, String text, int fault, int answer) {
        tell(x, text);
        due("grammar() of [" + text + "]", x.grammar(), answer);
        due("fault() of [" + text + "]", x.fault(), fault);
        due("tape behind grammar()", x.count(6), 0);
    }

    static void dueFault(String text, int fault, int place) {
        dueGrammar(new TreeSchool(), text, fault, -1 - place);
    }

    static void dueRead(TreeSchool x, String text, int answer) {
        tell(x, text);
        due("read() of [" + text + "]", x.read(), answer);
        due("tape behind read()", x.count(6), 0);
    }

    static void dueBracket(TreeSchool x, String name, int i, int j, boolean answer) {
        tell(x, name);
        due("bracket(" + i + ", " + j + ") of [" + name + "]", x.bracket(i, j), answer);
        due("tape behind bracket()", x.count(6), 0);
    }

    static void dueCategory(TreeSchool x, String name, int answer) {
        tell(x, name);
        due("category() of [" + name + "]", x.category(), answer);
        due("tape behind category()", x.count(6), 0);
    }

    static void dueCounts(TreeSchool x, int... counts) {
        for (int what = 0; what < counts.length; what++) {
            due("count(" + what + ")", x.count(what), counts[what]);
        }
    }

    static void dueSign(TreeSchool x, int i, int j, int k, int... parts) {
        for (int what = 0; what < parts.length; what++) {
            due("sign(" + i + ", " + j + ", " + k + ", " + what + ")", x.sign(i, j, k, what), parts[what]);
        }
    }

    static void dueNode(TreeSchool x, int m, int... parts) {
        for (int what = 0; what < parts.length; what++) {
            due("node(" + m + ", " + what + ")", x.node(m, what), parts[what]);
        }
    }

    static void dueNoSign(TreeSchool x, int i, int j, int k, int what) {
        boolean thrown = false;
        try {
            x.sign(i, j, k, what);
        } catch (NoSuchElementException e) {
            thrown = true;
        }
        due("sign(" + i + ", " + j + ", " + k + ", " + what + ") throws", thrown, true);
    }

    static void dueNoTimes(TreeSchool x, int i, int j, int k) {
        boolean thrown = false;
        try {
            x.times(i, j, k);
        } catch (NoSuchElementException e) {
            thrown = true;
        }
        due("times(" + i + ", " + j + ", " + k + ") throws", thrown, true);
    }

    static void dueNoNode(TreeSchool x, int m, int what) {
        boolean thrown = false;
        try {
            x.node(m, what);
        } catch (NoSuchElementException e) {
            thrown = true;
        }
        due("node(" + m + ", " + what + ") throws", thrown, true);
    }

    static void dueNoOctet(TreeSchool x, int k) {
        boolean thrown = false;
        try {
            x.octet(k);
        } catch (NoSuchElementException e) {
            thrown = true;
        }
        due("octet(" + k + ") throws", thrown, true);
    }

    static void dueOut(TreeSchool x, String text) {
        due("bytes of OUT", x.count(7), text.length());
        for (int k = 0; k < text.length(); k++) {
            due("octet(" + k + ")", x.octet(k), text.charAt(k));
        }
        dueNoOctet(x, text.length());
        dueNoOctet(x, -1);
        dueNoOctet(x, Integer.MAX_VALUE);
        dueNoOctet(x, Integer.MIN_VALUE);
    }

    /** All that can be seen of an object without changing it. */
    static String portrait(TreeSchool x) {
        StringBuilder s = new StringBuilder("counts");
        for (int what = 0; what <= 7; what++) {
            s.append(' ').append(x.count(what));
        }
        s.append(" fault ").append(x.fault()).append(" trees ").append(x.trees());
        s.append(" slips ").append(x.slips()).append(" held ").append(x.held()).append(" out ");
        for (int k = 0; k < x.count(7); k++) {
            s.append((char) x.octet(k));
        }
        for (int m = 0; m < x.count(5); m++) {
            s.append("\n  node");
            for (int what = 0; what <= 8; what++) {
                s.append(' ').append(x.node(m, what));
            }
        }
        int words = x.count(3);
        for (int i = 0; i < words; i++) {
            for (int j = i + 1; j <= words; j++) {
                addSigns(x, i, j, s);
            }
        }
        return s.toString();
    }

    private static void addSigns(TreeSchool x, int i, int j, StringBuilder s) {
        int signs = x.signs(i, j);
        for (int k = 0; k < signs; k++) {
            s.append("\n  sign ").append(i).append(' ').append(j).append(':');
            for (int what = 0; what <= 4; what++) {
                s.append(' ').append(x.sign(i, j, k, what));
            }
            s.append(" times ").append(x.times(i, j, k));
        }
    }

    static void dueSame(String what, TreeSchool x, String before) {
        String now = portrait(x);
        if (!now.equals(before)) {
            wrong++;
            System.out.println(tested + ": " + what + " changed\n" + before + "\nto\n" + now);
        }
    }

    static void finish(String good) {
        System.out.println(wrong == 0 ? good : wrong + " answers are not as due");
        if (wrong != 0) {
            System.exit(1);
        }
    }
}
