import java.util.ArrayList;
import java.util.Arrays;
import java.util.LinkedHashSet;
import java.util.List;
import java.util.NoSuchElementException;
import java.util.Random;
import java.util.TreeMap;

/** Holds TreeSchool against a slow model that writes out every tree, over many made-up runs of calls. */
public final class TreeSchoolOracle {
    private static final int RUNS = 400;
    private static final int TREES_OF_A_SPAN = 1200;
    private static final long MANY = 1000000000000000L;

    private static int wrong = 0;
    private static final int[] seen = new int[20];
    // How often each of these came up: a fault of kind 0 to 4; read() 1, 0, NONE, -2; many trees.
    private static final int[] met = new int[10];

    /** The model gives up on a sentence with too many trees to write them out. */
    private static final class TooBig extends RuntimeException {
    }

    private static final class Fault extends RuntimeException {
        final int kind;
        final int place;

        Fault(int kind, int place) {
            this.kind = kind;
            this.place = place;
        }
    }

    private record Token(char kind, String text, int place) {
    }

    private record Entry(String word, int category, int[] values) {
    }

    private record Law(boolean agree, int feature, int slot, int other) {
    }

    private record Rule(int category, int[] parts, List<Law> laws, int place) {
        int[] apply(int[] first, int[] second) {
            int[][] slots = {{-1, -1, -1, -1}, first.clone(), second == null ? new int[4] : second.clone()};
            for (Law law : laws) {
                int f = law.feature;
                int mine = slots[law.slot][f];
                if (law.agree) {
                    int others = slots[law.other][f];
                    if (mine >= 0 && others >= 0) {
                        if (mine != others) {
                            return null;
                        }
                    } else if (mine >= 0) {
                        slots[law.other][f] = mine;
                    } else if (others >= 0) {
                        slots[law.slot][f] = others;
                    }
                } else {
                    if (mine >= 0 && mine != law.other) {
                        return null;
                    }
                    slots[law.slot][f] = law.other;
                }
            }
            return slots[0];
        }
    }

    private record Node(int category, int i, int j, int by, int[] values, Node first, Node second) {
        void write(int depth, List<int[]> rows) {
            rows.add(new int[] {category, i, j, by, depth, values[0], values[1], values[2], values[3]});
            if (first != null) {
                first.write(depth + 1, rows);
            }
            if (second != null) {
                second.write(depth + 1, rows);
            }
        }

        List<int[]> rows() {
            List<int[]> rows = new ArrayList<>();
            write(0, rows);
            return rows;
        }
    }

    private static final class Grammar {
        final List<Entry> entries = new ArrayList<>();
        final List<Rule> rules = new ArrayList<>();
        final List<String> categories = new ArrayList<>();
    }

    private static final class GrammarText {
        final List<Token> tokens = new ArrayList<>();
        final Grammar grammar = new Grammar();
        int at = 0;

        GrammarText(String text) {
            boolean over = text.length() > 1500;
            int p = 0;
            while (p < text.length() && !(over && p >= 1500)) {
                char c = text.charAt(p);
                if (c == ' ' || c == '\n') {
                    p++;
                    continue;
                }
                int q = p;
                while (q < text.length() && String.valueOf(text.charAt(q)).matches("[a-z0-9]")) {
                    q++;
                }
                String run = text.substring(p, q);
                if (q == p) {
                    tokens.add(new Token(c == '=' || c == ';' ? c : '?', String.valueOf(c), p));
                    q = p + 1;
                } else if (run.matches("[a-z]{1,10}")) {
                    tokens.add(new Token(run.matches("word|rule|agree|is") ? 'k' : 'n', run, p));
                } else {
                    tokens.add(new Token(run.matches("[0-9]") ? 'd' : '?', run, p));
                }
                p = q;
            }
            tokens.add(new Token(over ? '?' : '$', "", over ? 1500 : text.length()));
        }

        Token peek() {
            return tokens.get(at);
        }

        Token take(char kind) {
            Token t = peek();
            if (t.kind != kind) {
                throw new Fault(1, t.place);
            }
            at++;
            return t;
        }

        boolean isKey(String key) {
            return peek().kind == 'k' && peek().text.equals(key);
        }

        int number(int highest, int barred) {
            Token t = take('d');
            int value = t.text.charAt(0) - '0';
            if (value > highest || value == barred) {
                throw new Fault(2, t.place);
            }
            return value;
        }

        int category() {
            Token t = take('n');
            if (!grammar.categories.contains(t.text)) {
                if (grammar.categories.size() == 16) {
                    throw new Fault(3, t.place);
                }
                grammar.categories.add(t.text);
            }
            return grammar.categories.indexOf(t.text);
        }

        Grammar read() {
            do {
                int place = peek().place;
                if (isKey("word")) {
                    entry(place);
                } else if (isKey("rule")) {
                    rule(place);
                } else {
                    throw new Fault(1, place);
                }
            } while (peek().kind != '$');
            for (Rule r : grammar.rules) {
                if (r.parts.length == 1 && leads(r.parts[0], r.category, 0)) {
                    throw new Fault(4, r.place);
                }
            }
            return grammar;
        }

        boolean leads(int from, int to, int steps) {
            if (from == to) {
                return true;
            }
            if (steps > 16) {
                return false;
            }
            for (Rule r : grammar.rules) {
                if (r.parts.length == 1 && r.category == from && leads(r.parts[0], to, steps + 1)) {
                    return true;
                }
            }
            return false;
        }

        void entry(int place) {
            if (grammar.entries.size() == 40) {
                throw new Fault(3, place);
            }
            at++;
            String word = take('n').text;
            int category = category();
            int[] values = {-1, -1, -1, -1};
            while (peek().kind == 'd') {
                int feature = number(3, -1);
                values[feature] = number(3, -1);
            }
            take(';');
            grammar.entries.add(new Entry(word, category, values));
        }

        void rule(int place) {
            if (grammar.rules.size() == 30) {
                throw new Fault(3, place);
            }
            at++;
            int category = category();
            take('=');
            int first = category();
            int[] parts = peek().kind == 'n' ? new int[] {first, category()} : new int[] {first};
            List<Law> laws = new ArrayList<>();
            while (isKey("agree") || isKey("is")) {
                boolean agree = isKey("agree");
                if (laws.size() == 8) {
                    throw new Fault(3, peek().place);
                }
                at++;
                int feature = number(3, -1);
                int slot = number(parts.length, -1);
                int other = agree ? number(parts.length, slot) : number(3, -1);
                laws.add(new Law(agree, feature, slot, other));
            }
            take(';');
            grammar.rules.add(new Rule(category, parts, laws, place));
        }
    }

    private static final class Model {
        String tape = "";
        Grammar grammar = null;
        int fault = 0;
        String[] words = null;
        TreeMap<String, List<Node>> memo = new TreeMap<>();
        LinkedHashSet<String> drawing = new LinkedHashSet<>();
        List<int[]> hand = null;
        String out = "";

        long feed(int[] numbers) {
            if (tape.length() + 20 > 1540) {
                return -1;
            }
            StringBuilder more = new StringBuilder(tape);
            for (int number : numbers) {
                for (int k = 3; k >= 0; k--) {
                    more.append((char) ((number >>> (8 * k)) & 255));
                }
            }
            tape = more.toString();
            return tape.length();
        }

        long end(int n) {
            if (n < 0 || n > tape.length()) {
                return 0;
            }
            tape = tape.substring(0, n);
            return 1;
        }

        String takeTape() {
            String text = tape;
            tape = "";
            return text;
        }

        long grammar() {
            try {
                grammar = new GrammarText(takeTape()).read();
            } catch (Fault f) {
                fault = f.kind;
                return -1 - f.place;
            }
            fault = 0;
            words = null;
            drawing.clear();
            hand = null;
            return grammar.entries.size() + grammar.rules.size();
        }

        long read() {
            String text = takeTape();
            if (text.length() > 1500 || grammar == null || grammar.rules.isEmpty()) {
                return -1;
            }
            List<String> told = new ArrayList<>();
            for (String word : text.split("[ \n]", -1)) {
                if (!word.isEmpty()) {
                    if (!word.matches("[a-z]{1,10}")) {
                        return -1;
                    }
                    told.add(word);
                }
            }
            if (told.isEmpty() || told.size() > 14) {
                return -1;
            }
            words = told.toArray(new String[0]);
            memo.clear();
            drawing.clear();
            hand = null;
            for (int length = 1; length <= words.length; length++) {
                for (int i = 0; i + length <= words.length; i++) {
                    if (signRows(i, i + length).size() > 60) {
                        words = null;
                        return -2;
                    }
                }
            }
            return all().isEmpty() ? 0 : 1;
        }

        List<Node> all() {
            return words == null ? List.of() : treesOf(grammar.rules.get(0).category, 0, words.length);
        }

        List<Node> treesOf(int category, int i, int j) {
            String key = category + " " + i + " " + j;
            List<Node> known = memo.get(key);
            if (known != null) {
                return known;
            }
            List<Node> list = new ArrayList<>();
            for (int e = 0; e < grammar.entries.size() && j == i + 1; e++) {
                Entry entry = grammar.entries.get(e);
                if (entry.category == category && entry.word.equals(words[i])) {
                    list.add(new Node(category, i, j, -1 - e, entry.values, null, null));
                }
            }
            for (int r = 0; r < grammar.rules.size(); r++) {
                Rule rule = grammar.rules.get(r);
                if (rule.category == category && rule.parts.length == 1) {
                    for (Node a : treesOf(rule.parts[0], i, j)) {
                        addNode(list, r, a, null, j);
                    }
                }
                for (int m = i + 1; m < j && rule.category == category && rule.parts.length == 2; m++) {
                    for (Node a : treesOf(rule.parts[0], i, m)) {
                        for (Node b : treesOf(rule.parts[1], m, j)) {
                            addNode(list, r, a, b, j);
                        }
                    }
                }
            }
            memo.put(key, list);
            return list;
        }

        void addNode(List<Node> list, int r, Node a, Node b, int j) {
            int[] values = grammar.rules.get(r).apply(a.values, b == null ? null : b.values);
            if (values != null) {
                list.add(new Node(grammar.rules.get(r).category, a.i, j, r, values, a, b));
                if (list.size() > TREES_OF_A_SPAN) {
                    throw new TooBig();
                }
            }
        }

        TreeMap<String, Integer> signRows(int i, int j) {
            TreeMap<String, Integer> rows = new TreeMap<>();
            for (int c = 0; c < grammar.categories.size(); c++) {
                for (Node t : treesOf(c, i, j)) {
                    StringBuilder key = new StringBuilder().append((char) ('A' + c));
                    for (int v : t.values) {
                        key.append(v < 0 ? '/' : (char) ('0' + v));
                    }
                    rows.merge(key.toString(), 1, Integer::sum);
                }
            }
            return rows;
        }

        boolean isSpan(int i, int j) {
            return words != null && 0 <= i && i < j && j <= words.length;
        }

        String signKey(int i, int j, int k) {
            if (!isSpan(i, j) || k < 0 || k >= signRows(i, j).size()) {
                throw new NoSuchElementException();
            }
            return new ArrayList<>(signRows(i, j).keySet()).get(k);
        }

        long sign(int i, int j, int k, int what) {
            String key = signKey(i, j, k);
            if (what < 0 || what > 4) {
                throw new NoSuchElementException();
            }
            return what == 0 ? key.charAt(0) - 'A' : key.charAt(what) - '0';
        }

        long times(int i, int j, int k) {
            String key = signKey(i, j, k);
            return Math.min(MANY, signRows(i, j).get(key));
        }

        long tree(int k) {
            if (k < 0 || k >= all().size()) {
                return -1;
            }
            hand = all().get(k).rows();
            return hand.size();
        }

        long node(int m, int what) {
            if (hand == null || m < 0 || m >= hand.size() || what < 0 || what > 8) {
                throw new NoSuchElementException();
            }
            return hand.get(m)[what];
        }

        int takeCategory() {
            String text = takeTape().replaceAll("^[ \n]+", "").replaceAll("[ \n]+$", "");
            return grammar == null ? -1 : grammar.categories.indexOf(text);
        }

        long bracket(int i, int j) {
            int c = takeCategory();
            if (c < 0 || !isSpan(i, j) || drawing.size() == 40) {
                return 0;
            }
            return drawing.add(c + " " + i + " " + j) ? 1 : 0;
        }

        long wipe() {
            int had = drawing.size();
            drawing.clear();
            return had;
        }

        int slipsOf(List<int[]> rows) {
            LinkedHashSet<String> nodes = new LinkedHashSet<>();
            for (int[] row : rows) {
                nodes.add(row[0] + " " + row[1] + " " + row[2]);
            }
            int slips = 0;
            for (String b : drawing) {
                slips += nodes.contains(b) ? 0 : 1;
            }
            for (String n : nodes) {
                slips += drawing.contains(n) ? 0 : 1;
            }
            return slips;
        }

        long slips() {
            return all().stream().mapToInt(t -> slipsOf(t.rows())).min().orElse(-1);
        }

        long mark() {
            long least = slips();
            for (Node t : all()) {
                if (slipsOf(t.rows()) == least) {
                    hand = t.rows();
                    return hand.size();
                }
            }
            return -1;
        }

        long held() {
            return hand == null ? -1 : slipsOf(hand);
        }

        long name(int c) {
            if (grammar == null || c < 0 || c >= grammar.categories.size()) {
                return -1;
            }
            out = grammar.categories.get(c);
            return out.length();
        }

        long octet(int k) {
            if (k < 0 || k >= out.length()) {
                throw new NoSuchElementException();
            }
            return out.charAt(k);
        }

        long count(int what) {
            switch (what) {
                case 0: return grammar == null ? 0 : grammar.entries.size();
                case 1: return grammar == null ? 0 : grammar.rules.size();
                case 2: return grammar == null ? 0 : grammar.categories.size();
                case 3: return words == null ? 0 : words.length;
                case 4: return drawing.size();
                case 5: return hand == null ? 0 : hand.size();
                case 6: return tape.length();
                case 7: return out.length();
                default: return -1;
            }
        }
    }

    /** One run: an object and its model, which get the same calls. */
    private static final class Run {
        final int number;
        final Random random;
        final TreeSchool school = new TreeSchool();
        final Model model = new Model();
        final StringBuilder story = new StringBuilder();
        String[] categories = {"a"};
        String[] words = {"p"};
        boolean careless = false;
        int calls = 0;

        Run(int number) {
            this.number = number;
            this.random = new Random(7919L * number + 3);
        }

        int below(int n) {
            return random.nextInt(n);
        }

        long call(int method, int... x) {
            calls++;
            seen[method]++;
            String due;
            try {
                due = String.valueOf(askModel(method, x));
            } catch (NoSuchElementException e) {
                due = "throws";
            }
            String got;
            try {
                got = String.valueOf(askSchool(method, x));
            } catch (NoSuchElementException e) {
                got = "throws";
            } catch (RuntimeException e) {
                got = e.toString();
            }
            if (!got.equals(due)) {
                wrong++;
                System.out.println("run " + number + ": method " + method + Arrays.toString(x)
                        + " answered " + got + ", due is " + due + "\n" + story);
            }
            return due.equals("throws") ? -1 : Long.parseLong(due);
        }

        long askModel(int method, int[] x) {
            switch (method) {
                case 0: return model.feed(x);
                case 1: return model.end(x[0]);
                case 2: return model.grammar();
                case 3: return model.fault;
                case 4: return model.read();
                case 5: return model.all().size();
                case 6: return model.isSpan(x[0], x[1]) ? model.signRows(x[0], x[1]).size() : -1;
                case 7: return model.sign(x[0], x[1], x[2], x[3]);
                case 8: return model.times(x[0], x[1], x[2]);
                case 9: return model.tree(x[0]);
                case 10: return model.node(x[0], x[1]);
                case 11: return model.bracket(x[0], x[1]);
                case 12: return model.wipe();
                case 13: return model.slips();
                case 14: return model.mark();
                case 15: return model.held();
                case 16: return model.name(x[0]);
                case 17: return model.takeCategory();
                case 18: return model.octet(x[0]);
                default: return model.count(x[0]);
            }
        }

        long askSchool(int method, int[] x) {
            switch (method) {
                case 0: return school.feed(x[0], x[1], x[2], x[3], x[4]);
                case 1: return school.end(x[0]) ? 1 : 0;
                case 2: return school.grammar();
                case 3: return school.fault();
                case 4: return school.read();
                case 5: return school.trees();
                case 6: return school.signs(x[0], x[1]);
                case 7: return school.sign(x[0], x[1], x[2], x[3]);
                case 8: return school.times(x[0], x[1], x[2]);
                case 9: return school.tree(x[0]);
                case 10: return school.node(x[0], x[1]);
                case 11: return school.bracket(x[0], x[1]) ? 1 : 0;
                case 12: return school.wipe();
                case 13: return school.slips();
                case 14: return school.mark();
                case 15: return school.held();
                case 16: return school.name(x[0]);
                case 17: return school.category();
                case 18: return school.octet(x[0]);
                default: return school.count(x[0]);
            }
        }

        void tell(String text) {
            story.append('[').append(text).append("]\n");
            int before = model.tape.length();
            for (int p = 0; p < text.length(); p += 20) {
                int[] x = new int[5];
                for (int k = 0; k < 20; k++) {
                    int b = p + k < text.length() ? text.charAt(p + k) : 0;
                    x[k / 4] = x[k / 4] << 8 | b;
                }
                call(0, x);
            }
            call(1, before + text.length());
        }

        String pick(String[] of) {
            return of[below(of.length)];
        }

        boolean rarely(int one) {
            return careless && below(one) == 0;
        }

        String gap() {
            return below(6) == 0 ? "\n " : rarely(25) ? "" : " ";
        }

        String laws(int parts, int most) {
            StringBuilder s = new StringBuilder();
            for (int n = below(most); n > 0; n--) {
                int f = rarely(30) ? 4 : below(4) == 0 ? below(4) : 0;
                int slot = rarely(30) ? parts + 1 : below(parts + 1);
                if (below(3) > 0) {
                    int other = rarely(30) ? slot : (slot + 1 + below(parts)) % (parts + 1);
                    s.append(gap()).append("agree ").append(f).append(' ').append(slot).append(gap()).append(other);
                } else {
                    int value = rarely(30) ? 5 : below(2);
                    s.append(" is ").append(f).append(' ').append(slot).append(' ').append(value);
                }
            }
            return s.toString();
        }

        String entryText(int values) {
            StringBuilder s = new StringBuilder("word ").append(pick(words)).append(gap()).append(pick(categories));
            for (int f = below(values + 1); f > 0; f--) {
                s.append(' ').append(rarely(30) ? 4 : below(values)).append(' ').append(rarely(30) ? 9 : below(values));
            }
            return s.append(';').toString();
        }

        String ruleText() {
            int kinds = categories.length;
            int parts = below(4) == 0 ? 1 : 2;
            int c = below(2) == 0 ? 0 : below(kinds);
            // Mostly downwards, so that a loop of rules of one part is rare.
            int part = parts == 2 || rarely(6) ? below(kinds) : c + 1;
            if (part >= kinds) {
                parts = 2;
                part = c;
            }
            return "rule" + gap() + categories[c] + " = " + categories[part]
                    + (parts == 2 ? gap() + pick(categories) : "") + laws(parts, rarely(20) ? 12 : 3) + ";";
        }

        String grammarText() {
            careless = below(3) == 0;
            int kinds = 1 + below(5);
            categories = new String[kinds];
            for (int c = 0; c < kinds; c++) {
                categories[c] = new String[] {"s", "np", "vp", "noun", "abcdefghij"}[c];
            }
            words = new String[1 + below(3)];
            for (int w = 0; w < words.length; w++) {
                words[w] = new String[] {"dog", "x", "qrstuvwxyz"}[w];
            }
            int style = below(9);
            if (style == 3) {
                return crossText();
            }
            int entries = style == 0 ? 34 + below(8) : 2 + below(8);
            int rules = style == 1 ? 26 + below(7) : 2 + below(8);
            StringBuilder s = new StringBuilder();
            for (int n = entries + rules; n > 0; n--) {
                s.append(below(n) < entries ? entryText(style == 0 ? 4 : 2) : ruleText());
                entries = Math.max(0, entries - (s.lastIndexOf("word") > s.lastIndexOf("rule") ? 1 : 0));
                s.append(below(5) == 0 ? "\n" : "");
            }
            for (int n = style == 2 ? 10 + below(4) : 0; n > 0; n--) {
                s.append("word ").append((char) ('a' + n)).append(" k").append((char) ('a' + n)).append(';');
            }
            for (int n = style == 4 ? 3 : 0; n > 0; n--) {
                s.append("rule ").append(pick(categories)).append('=').append(pick(categories)).append(';');
            }
            return s.length() > 1500 ? s.substring(0, 1500) : s.toString();
        }

        // Two words over have about as many signs as a span may have.
        String crossText() {
            categories = new String[] {"s", "np", "vp"};
            words = new String[] {"dog", "x"};
            StringBuilder s = new StringBuilder("rule s=np vp agree 0 0 1 agree 1 0 1 agree 2 0 2 agree 3 2 0;");
            int[] most = {6 + below(3), 8 + below(2)};
            for (int w = 0; w < 2; w++) {
                for (int n = 0; n < most[w]; n++) {
                    s.append("word ").append(words[w]).append(' ').append(categories[w + 1]).append(' ').append(2 * w);
                    s.append(' ').append(n % 4).append(' ').append(2 * w + 1).append(' ').append(n / 4).append(';');
                }
            }
            return s.append(below(2) == 0 ? "rule vp=s;" : "").toString();
        }

        String spoil(String text) {
            StringBuilder s = new StringBuilder(text);
            int at = below(s.length() + 1);
            String odd = "=;; a09Az{`/:\n\t\0\u00e9";
            switch (below(4)) {
                case 0:
                    s.setLength(at);
                    break;
                case 1:
                    s.insert(at, odd.charAt(below(odd.length())));
                    break;
                case 2:
                    if (at < s.length()) {
                        s.deleteCharAt(at);
                    }
                    break;
                default:
                    for (int n = 1490 + below(50) - s.length(); n > 0; n--) {
                        s.insert(at, below(30) == 0 ? '\n' : ' ');
                    }
                    break;
            }
            return s.toString();
        }

        String sentenceText() {
            int most = below(3) == 0 ? 8 : 4;
            StringBuilder s = new StringBuilder(below(5) == 0 ? " " : "");
            for (int n = 1 + below(most); n > 0; n--) {
                s.append(below(40) == 0 ? "rule" : pick(words)).append(below(9) == 0 ? "\n " : " ");
            }
            return below(25) == 0 ? s + "x1" : below(40) == 0 ? "" : s.toString();
        }

        int span() {
            return below(model.words == null ? 3 : model.words.length + 1) - (below(20) == 0 ? 1 : 0);
        }

        void lookAround() {
            for (int what = -1; what <= 8; what++) {
                call(19, what);
            }
            call(3);
            call(5);
            call(13);
            call(15);
        }

        void lookAtSigns() {
            int n = model.words == null ? 1 : model.words.length;
            for (int tries = 0; tries < 4; tries++) {
                int i = below(n);
                int j = i + 1 + below(n - i);
                int k = (int) call(6, i, j);
                int which = below(Math.max(k, 0) + 2) - below(2);
                for (int what = 0; what <= 4; what++) {
                    call(7, i, j, which, what);
                }
                call(8, i, j, which);
            }
            call(6, span(), span());
            call(7, span(), span(), below(3) - 1, below(8) - 2);
            call(8, span(), span(), below(3) - 1);
        }

        void lookAtHand() {
            int nodes = model.hand == null ? 0 : model.hand.size();
            for (int tries = 0; tries < 12; tries++) {
                call(10, below(nodes + 2) - (below(9) == 0 ? 1 : 0), below(9) == 0 ? below(12) - 2 : below(9));
            }
            call(15);
        }

        void lookAtTrees() {
            int all = model.all().size();
            for (int tries = 0; tries < 3; tries++) {
                call(9, below(all + 2) - (below(9) == 0 ? 1 : 0));
                lookAtHand();
            }
        }

        void draw() {
            int most = below(10) == 0 ? 45 : 6;
            for (int n = below(most); n > 0; n--) {
                tell(below(20) == 0 ? "nix" : (below(3) == 0 ? " " : "") + pick(categories) + (below(3) == 0 ? "\n" : ""));
                int i = span();
                call(11, i, below(6) == 0 ? span() : i + 1 + below(3));
                if (below(4) == 0) {
                    call(13);
                }
            }
            call(13);
            call(15);
            call(14);
            lookAtHand();
            if (below(4) == 0) {
                call(12);
                call(13);
            }
        }

        void lookAtNames() {
            call(16, below(7) - 1);
            for (int k = -1; k < 11; k++) {
                call(18, k);
            }
            tell(below(4) == 0 ? "s np" : below(3) == 0 ? " \n" + pick(categories) + " " : pick(categories));
            call(17);
        }

        void step() {
            switch (below(9)) {
                case 0:
                    String text = grammarText();
                    tell(below(3) == 0 ? spoil(text) : text);
                    call(2);
                    met[(int) call(3)]++;
                    break;
                case 1:
                case 2:
                case 3:
                    tell(sentenceText());
                    int answer = (int) call(4);
                    met[answer == 1 ? 5 : answer == 0 ? 6 : answer == -1 ? 7 : 8]++;
                    met[9] += model.all().size() > 20 ? 1 : 0;
                    break;
                case 4:
                    lookAtSigns();
                    break;
                case 5:
                    lookAtTrees();
                    break;
                case 6:
                    draw();
                    break;
                case 7:
                    lookAtNames();
                    break;
                default:
                    lookAround();
                    break;
            }
        }

        void go() {
            lookAround();
            for (int tries = 0; tries < 4 && model.grammar == null; tries++) {
                tell(grammarText());
                call(2);
                met[(int) call(3)]++;
            }
            try {
                while (calls < 300) {
                    step();
                }
            } catch (TooBig e) {
                story.setLength(0);
            }
        }
    }

    public static void main(String[] args) {
        for (int run = 0; run < RUNS && wrong < 5; run++) {
            new Run(run).go();
        }
        for (int method = 0; method < seen.length; method++) {
            if (seen[method] < 100) {
                wrong++;
                System.out.println("method " + method + " was called " + seen[method] + " times alone");
            }
        }
        for (int what = 0; what < met.length; what++) {
            if (met[what] < 10) {
                wrong++;
                System.out.println("what " + what + " was met " + met[what] + " times alone");
            }
        }
        System.out.println(wrong == 0 ? "the school and the model agree" : wrong + " answers are not as due");
        if (wrong != 0) {
            System.exit(1);
        }
    }
}
