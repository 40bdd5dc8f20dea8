import java.util.Random;

/** Runs of calls made by numbers (always the same ones), each answered by the program and by PlainHeaps. */
public final class AgainstPlainTest {
    private static final int CALLS = 512;
    private static int wrong = 0;

    private final Random random;
    private final int style;
    private final LetterHeaps real = new LetterHeaps();
    private final PlainHeaps plain = new PlainHeaps();
    private final StringBuilder told = new StringBuilder();
    private int calls;

    private AgainstPlainTest(int run) {
        random = new Random(run);
        style = run % 6;
    }

    public static void main(String[] args) {
        int from = args.length > 1 ? Integer.parseInt(args[0]) : 0;
        int to = args.length > 1 ? Integer.parseInt(args[1]) : 150;
        for (int run = from; run < to && wrong == 0; run++) {
            new AgainstPlainTest(run).run(run);
        }
        System.out.println(wrong == 0 ? "all runs answer alike" : "a run does not answer alike");
        if (wrong != 0) {
            System.exit(1);
        }
    }

    private void run(int run) {
        startWords();
        while (calls < CALLS - 12 && wrong == 0) {
            try {
                anyCall();
            } catch (RuntimeException thrown) {
                wrong++;
                System.out.println("run " + run + " threw " + thrown + " after " + told);
                thrown.printStackTrace(System.out);
            }
        }
        if (wrong != 0) {
            System.out.println("run " + run + ":\n" + told);
        }
    }

    private void same(String call, long got, long want) {
        calls++;
        told.append(call).append(" -> ").append(got).append('\n');
        if (got != want) {
            wrong++;
            told.append("   wrong: due is ").append(want).append('\n');
        }
    }

    private int pick(int n) {
        return random.nextInt(n);
    }

    private boolean seldom() {
        return pick(25) == 0;
    }

    private void feed(String text) {
        StringBuilder all = new StringBuilder(text);
        while (all.length() % 20 != 0) {
            all.append((char) pick(256));
        }
        for (int i = 0; i < all.length(); i += 20) {
            int[] n = new int[5];
            for (int j = 0; j < 20; j++) {
                n[j / 4] = n[j / 4] << 8 | all.charAt(i + j);
            }
            same("feed " + text, real.feed(n[0], n[1], n[2], n[3], n[4]), plain.feed(n[0], n[1], n[2], n[3], n[4]));
        }
    }

    private String letters(int least, int most, int alphabet) {
        StringBuilder s = new StringBuilder();
        for (int n = least + pick(most - least + 1); n > 0; n--) {
            s.append((char) ('a' + pick(alphabet)));
        }
        return s.toString();
    }

    private String row() {
        switch (style) {
            case 0: return letters(1, 3, 3);
            case 1: return letters(2, 4, 3);
            case 2: return letters(5, 8, 2);
            case 3: return letters(1, 2, 26);
            case 4: return letters(4, 4, 2 + pick(2));
            default: return letters(1, 8, 2);
        }
    }

    private void empty() {
        if (plain.tape.size() > 0 && pick(3) > 0) {
            same("law to empty", real.law(1), plain.law(1));
        }
    }

    private void startWords() {
        int n = style == 3 ? 40 : 4 + pick(37);
        for (int i = 0; i < n; i++) {
            addWord();
        }
    }

    private void addWord() {
        String row = row();
        if (seldom()) {
            row = row.substring(0, row.length() - 1) + (char) (pick(2) == 0 ? 96 : 123);
        }
        empty();
        feed(row);
        int n = seldom() ? pick(12) - 1 : row.length();
        int known = seldom() ? pick(120) - 10 : pick(100);
        int tongues = seldom() ? pick(20) - 2 : 1 + pick(15);
        same("word " + n + " " + known + " " + tongues, real.word(n, known, tongues), plain.word(n, known, tongues));
    }

    private int anyWord() {
        int size = plain.words.size();
        return seldom() || size == 0 ? pick(46) - 3 : pick(size);
    }

    /** A WORD that there may be a STEP to. */
    private int oneBeside(int a) {
        for (int i = 0; i < 30 && plain.is(a); i++) {
            int b = pick(plain.words.size());
            if (plain.farBy(a, b) == 1 || (plain.farBy(a, b) == 2 && pick(10) == 0)) {
                return b;
            }
        }
        return anyWord();
    }

    private String toldWords(int n, boolean usedOnes) {
        StringBuilder s = new StringBuilder();
        java.util.List<Integer> list = new java.util.ArrayList<>();
        for (int w = 0; w < plain.words.size(); w++) {
            if (!usedOnes || plain.count(100 + w) == 1 || pick(60) == 0) {
                list.add(w);
            }
        }
        java.util.Collections.shuffle(list, random);
        int near = pick(3) == 0 || list.isEmpty() ? -1 : list.get(0);
        if (near >= 0) {
            list.sort(java.util.Comparator.comparingInt(w -> plain.farBy(near, w)));
            java.util.Collections.shuffle(list.subList(0, Math.min(list.size(), Math.max(0, n))), random);
        }
        for (int i = 0; i < n; i++) {
            int w = i < list.size() ? list.get(i) : pick(42);
            s.append((char) (pick(100) == 0 ? pick(256) : w));
        }
        return s.toString();
    }

    // ---- laws

    private String factor(int open) {
        int which = pick(open < 6 ? 7 : 6);
        if (which < 2) {
            return String.valueOf(pick(4) == 0 ? pick(100000) : pick(4));
        }
        return which < 6 ? String.valueOf("kioplfgab".charAt(pick(9))) : "[" + sum(open + 1) + "]";
    }

    private String sum(int open) {
        StringBuilder s = new StringBuilder(factor(open));
        for (int n = Math.max(0, pick(6) - 2); n > 0; n--) {
            s.append("+-*/%".charAt(pick(5))).append(factor(open));
        }
        return s.toString();
    }

    private String piece(int open) {
        int which = pick(open < 6 ? 8 : 6);
        if (which < 6) {
            return sum(open) + "<>=".charAt(pick(3)) + sum(open);
        }
        return which == 6 ? "!" + piece(open + 1) : "(" + condition(open + 1) + ")";
    }

    private String condition(int open) {
        StringBuilder s = new StringBuilder(piece(open));
        for (int n = Math.max(0, pick(5) - 2); n > 0; n--) {
            s.append("|&".charAt(pick(2))).append(piece(open));
        }
        return s.toString();
    }

    private String lawText() {
        StringBuilder s = new StringBuilder();
        int clauses = 1 + pick(pick(6) == 0 ? 14 : 5);
        for (int i = 0; i < clauses; i++) {
            String clause = pick(4) == 0 ? "n(" + condition(1) + ")" : "c" + sum(0) + "(" + condition(1) + ")";
            if (pick(5) == 0) {
                clause = pick(2) == 0 ? "n(0=1)" : "c" + (1 + pick(6)) + "(" + "kiolfgab".charAt(pick(8)) + "%3=" + pick(3) + ")";
            }
            if (s.length() + clause.length() < 160) {
                s.append(i == 0 || s.length() == 0 ? "" : ";").append(clause);
            }
        }
        if (pick(3) == 0 && s.length() > 0) {
            int at = pick(s.length());
            char c = "nc;()|&!<>=+-*/%[]0123456789kioplfgabz {".charAt(pick(40));
            switch (pick(4)) {
                case 0: s.setCharAt(at, c); break;
                case 1: s.insert(at, c); break;
                case 2: s.deleteCharAt(at); break;
                default: s.setLength(at); break;
            }
        }
        if (s.length() > 160) {
            s.setLength(160);
        }
        return s.length() == 0 ? "n" : s.toString();
    }

    private void newLaw() {
        empty();
        String text = lawText();
        if (plain.tape.size() + text.length() > 180) {
            return;
        }
        if (plain.tape.isEmpty()) {
            feed(text);
        }
        int n = seldom() ? pick(170) - 2 : text.length();
        same("law " + n, real.law(n), plain.law(n));
    }

    // ---- calls

    private void anyCall() {
        int a = anyWord();
        int b = pick(2) == 0 ? anyWord() : oneBeside(a);
        switch (pick(30)) {
            case 0: addWord(); break;
            case 1: bars(a); break;
            case 2: int level = pick(110) - 5; same("know " + a + " " + level, real.know(a, level) ? 1 : 0, plain.know(a, level) ? 1 : 0); break;
            case 3: int tongue = pick(3) > 0 ? -1 : pick(7) - 2; same("speak " + tongue, real.speak(tongue) ? 1 : 0, plain.speak(tongue) ? 1 : 0); break;
            case 4: newLaw(); break;
            case 5: case 6: for (int i = -1; i < 4; i++) { same("step " + a + " " + b + " " + i, real.step(a, b, i), plain.step(a, b, i)); } break;
            case 7: case 8: leasts(a, b); break;
            case 9: same("howMany " + a + " " + b, real.howMany(a, b), plain.howMany(a, b)); break;
            case 10: same("without " + a + " " + b, real.without(a, b), plain.without(a, b)); break;
            case 11: same("heap " + a, real.heap(a), plain.heap(a)); break;
            case 12: same("heaps", real.heaps(), plain.heaps()); break;
            case 13: int f = pick(5) - 1; same("far " + f, real.far(f), plain.far(f)); break;
            case 14: int t = pick(4) - 1; same("between " + t, real.between(t), plain.between(t)); break;
            case 15: int q = pick(3) == 0 ? pick(22) - 2 : pick(2) * 10 + pick(3); same("newWord " + q, real.newWord(q), plain.newWord(q)); break;
            case 16: int s = pick(14) - 1; same("walks " + a + " " + b + " " + s, real.walks(a, b, s), plain.walks(a, b, s)); break;
            case 17: case 18: rows(); break;
            case 19: case 20: games(); break;
            case 21: same("farBy " + a + " " + b, real.farBy(a, b), plain.farBy(a, b)); break;
            case 22: nears(); break;
            case 23: clears(); break;
            case 24: rubs(); break;
            case 25: squares(); break;
            case 26: int seed = pick(70000) - 1000; same("seed " + seed, real.seed(seed) ? 1 : 0, plain.seed(seed) ? 1 : 0); break;
            case 27: draws(a); break;
            case 28: if (pick(4) == 0) { same("off", real.off(), plain.off()); } else { checks(a); } break;
            default: int c = pick(148) - 3; same("count " + c, real.count(c), plain.count(c)); same("count 4", real.count(4), plain.count(4)); break;
        }
    }

    private void bars(int a) {
        boolean is = pick(4) == 0;
        same("bar " + a + " " + is, real.bar(a, is) ? 1 : 0, plain.bar(a, is) ? 1 : 0);
    }

    private void leasts(int a, int b) {
        for (int what : new int[] {-1, 40, 0, 1, 2, 3, pick(45) - 3}) {
            same("least " + a + " " + b + " " + what, real.least(a, b, what), plain.least(a, b, what));
        }
    }

    private void rows() {
        empty();
        int n = seldom() ? pick(13) : 2 + pick(6);
        feed(toldWords(n, true));
        int what = pick(n + 3) - 2;
        same("row " + n + " " + what, real.row(n, what), plain.row(n, what));
    }

    private void games() {
        empty();
        int n = seldom() ? pick(15) : 2 + pick(8);
        feed(toldWords(n, true));
        int what = seldom() ? pick(5) - 2 : pick(2);
        same("game " + n + " " + what, real.game(n, what), plain.game(n, what));
    }

    private void nears() {
        empty();
        String text = pick(3) == 0 ? letters(1, 12, 4) : row();
        feed(text);
        int n = seldom() ? pick(15) : text.length();
        int what = pick(5) - 1;
        same("near " + n + " " + what, real.near(n, what), plain.near(n, what));
    }

    private void clears() {
        empty();
        int n = pick(8) == 0 ? pick(17) : 1 + pick(9);
        feed(toldWords(n, false));
        int d = seldom() ? pick(12) - 1 : 1 + pick(4);
        int what = seldom() ? pick(5) - 2 : pick(2);
        same("clear " + n + " " + d + " " + what, real.clear(n, d, what), plain.clear(n, d, what));
    }

    private void rubs() {
        empty();
        StringBuilder s = new StringBuilder(row());
        for (int i = 0; i < s.length(); i++) {
            if (pick(2) == 0) {
                s.setCharAt(i, pick(60) == 0 ? '>' : '?');
            }
        }
        feed(s.toString());
        int n = seldom() ? pick(12) - 1 : s.length();
        same("rubbed " + n, real.rubbed(n), plain.rubbed(n));
    }

    private void squares() {
        int n = seldom() ? pick(7) : pick(3) == 0 ? 4 : 2 + pick(2);
        int what = pick(n + 3) - 2;
        same("square " + n + " " + what, real.square(n, what), plain.square(n, what));
    }

    private void draws(int a) {
        int n = seldom() ? pick(64) - 2 : 1 + pick(10);
        int what = seldom() ? pick(5) - 2 : pick(2);
        same("draw " + a + " " + n + " " + what, real.draw(a, n, what), plain.draw(a, n, what));
    }

    private void checks(int a) {
        empty();
        String row = plain.is(a) ? plain.words.get(a).row : "abc";
        StringBuilder s = new StringBuilder();
        for (int i = 0; i < 10; i++) {
            int number = i < row.length() && pick(12) > 0 ? row.charAt(i) - 'a' : random.nextInt();
            s.append((char) (number >>> 24)).append((char) (number >> 16 & 255)).append((char) (number >> 8 & 255)).append((char) (number & 255));
        }
        if (plain.tape.isEmpty()) {
            feed(s.toString());
        }
        int n = pick(3) == 0 ? pick(12) - 1 : row.length();
        same("check " + a + " " + n, real.check(a, n), plain.check(a, n));
    }
}
