/**
 * What each call leaves as it was: a refused one changes nothing but the tape, an answered one what its promise
 * says and nothing else. Each call is made on an object whose state is nowhere that of a new one; then all that it
 * keeps is read, to the last LETTER, and must be as in an object that was made in the state that is due.
 */
public final class UntouchedTest {
    private static final int MIN = Integer.MIN_VALUE;
    private static final int MAX = Integer.MAX_VALUE;
    /** On the tape where a call takes nothing from it: it is read as a LAW in the end. */
    private static final String TEXT = "c5(b=0);n(a=3)";

    private interface Call {
        long on(LetterHeaps x);
    }

    /** A state to make an object in. */
    private static final class State {
        String[] rows = {"ab", "ac", "acc", "bc", "xyz", "ad"};
        int[] known = {10, 20, 30, 40, 50, 60};
        int[] tongues = {2, 15, 6, 3, 2, 13};
        boolean[] barred = {true, false, false, false, false, false};
        String law = "c3(a=1);n(a=2&b=1);cg/9(b=1)";
        int spoken = 1;
        int seed = 12345;
        String tape = TEXT;

        State tape(String text) {
            tape = text;
            return this;
        }

        State words(String... all) {
            rows = all;
            return this;
        }

        State bar(int w, boolean is) {
            barred[w] = is;
            return this;
        }

        State know(int w, int n) {
            known[w] = n;
            return this;
        }

        State speak(int tongue) {
            spoken = tongue;
            return this;
        }

        State law(String text) {
            law = text;
            return this;
        }

        State seed(int x) {
            seed = x;
            return this;
        }

        /** A WORD more, not BARRED. */
        State more(String row, int n, int bits) {
            int size = rows.length;
            rows = java.util.Arrays.copyOf(rows, size + 1);
            known = java.util.Arrays.copyOf(known, size + 1);
            tongues = java.util.Arrays.copyOf(tongues, size + 1);
            barred = java.util.Arrays.copyOf(barred, size + 1);
            rows[size] = row;
            known[size] = n;
            tongues[size] = bits;
            return this;
        }

        Desk make() {
            Desk desk = new Desk();
            for (int w = 0; w < rows.length; w++) {
                desk.word(rows[w], known[w], tongues[w]);
                if (barred[w]) {
                    desk.x.bar(w, true);
                }
            }
            desk.law(law);
            desk.x.speak(spoken);
            desk.x.seed(seed);
            if (!tape.isEmpty()) {
                desk.tape(tape);
            }
            return desk;
        }

        /** All that an object keeps; the reading changes it, so an object is read once. */
        String read(LetterHeaps x) {
            StringBuilder s = new StringBuilder("counts");
            for (int what = 0; what < 6; what++) {
                s.append(' ').append(x.count(what));
            }
            for (int w = 0; w <= rows.length; w++) {
                s.append(" word ").append(x.count(20 + w)).append(' ').append(x.count(60 + w)).append(' ').append(x.count(100 + w));
            }
            steps(s, x);
            for (int w = 0; w <= rows.length; w++) {
                s.append(" barred ").append(x.bar(w, false));
            }
            for (int tongue = 3; tongue >= -1; tongue--) {
                s.append(" tongue ").append(x.speak(tongue));
                for (int w = 0; w <= rows.length; w++) {
                    s.append(' ').append(x.count(100 + w));
                }
            }
            steps(s, x);
            s.append(" tape ").append(x.law(TEXT.length()));
            steps(s, x);
            for (int w = 0; w < rows.length; w++) {
                s.append(" letters ").append(letters(x, w));
            }
            return s.toString();
        }

        private void steps(StringBuilder s, LetterHeaps x) {
            s.append(" steps");
            for (int a = 0; a < rows.length; a++) {
                for (int b = 0; b < rows.length; b++) {
                    if (a != b) {
                        s.append(' ').append(x.step(a, b, 0));
                    }
                }
            }
        }

        private int letters(LetterHeaps x, int w) {
            int[] n = new int[10];
            for (int i = 0; i < rows[w].length(); i++) {
                n[i] = rows[w].charAt(i) - 'a';
            }
            x.feed(n[0], n[1], n[2], n[3], n[4]);
            x.feed(n[5], n[6], n[7], n[8], n[9]);
            return x.check(w, rows[w].length());
        }
    }

    private UntouchedTest() {
    }

    public static void main(String[] args) {
        readingTells();
        feeds();
        words();
        bars();
        levels();
        tongues();
        laws();
        steps();
        leasts();
        rowsOfSteps();
        heaps();
        twos();
        newWords();
        walks();
        rows();
        games();
        spelled();
        clears();
        rubbed();
        squares();
        seeds();
        draws();
        offs();
        checks();
        counts();
        Desk.end();
    }

    private static void sentence(String says) {
        Desk.sentence(says);
    }

    private static void due(String call, State from, long want, Call one, State to) {
        Desk desk = from.make();
        Desk.due(call, want, one.on(desk.x));
        Desk.due(call + ": all that is kept", to.read(to.make().x), to.read(desk.x));
    }

    private static void stays(String call, long want, Call one) {
        due(call, new State(), want, one, new State());
        due(call + ", the tape empty", new State().tape(""), want, one, new State().tape(""));
    }

    private static void lacks(String call, long want, Call one) {
        due(call + ", the tape empty", new State().tape(""), want, one, new State().tape(""));
    }

    private static void empties(String call, String tape, long want, Call one) {
        due(call, new State().tape(tape), want, one, new State().tape(""));
    }

    private static State none() {
        State state = new State();
        for (int w = 1; w < 5; w++) {
            state.bar(w, true);
        }
        return state;
    }

    /** A state that differs in one thing alone must be read as another one. */
    private static void readingTells() {
        sentence("(what is read of two states is not always alike)");
        State[] others = {new State().tape(""), new State().tape("c5(b=1);n(a=3)"), new State().tape("c5(b=0);n(a=2)"),
            new State().words("ab", "ac", "acc", "bc", "xyz", "ae"), new State().words("ab", "ac", "aac", "bc", "xyz", "ad"),
            new State().bar(0, false), new State().bar(5, true), new State().know(0, 11), new State().know(5, 61), new State().speak(-1),
            new State().speak(0), new State().law("c3(a=1);n(a=2&b=1);cg/5(b=1)"), new State().law("c3(a=1)"), new State().seed(12346),
            new State().more("q", 1, 1), new State().words("ab", "ac", "acc", "bc", "xyz")};
        State first = new State();
        Desk.due("the same state", first.read(first.make().x), first.read(new State().make().x));
        for (int i = 0; i < others.length; i++) {
            Desk.due("state " + i, false, others[i].read(others[i].make().x).equals(others[i].read(first.make().x)));
        }
        for (int w = 0; w < 6; w++) {
            State other = new State();
            other.tongues[w] ^= 8;
            Desk.due("the TONGUES of " + w, false, other.read(other.make().x).equals(other.read(first.make().x)));
        }
    }

    // ---- 2 to 7

    private static void feeds() {
        sentence("2: Twenty bytes come behind the tape: nothing else changes");
        due("feed", new State().tape(""), 20, x -> x.feed(0x63352862, 0x3d30293b, 0x6e28613d, 0x33297a7a, 0x7a7a7a7a), new State());
        due("once more", new State(), 40, x -> x.feed(-1, 0, MAX, MIN, 7), new State().tape(TEXT + "z".repeat(26)));
        String full = TEXT + "z".repeat(186);
        due("NONE", new State().tape(full), -1, x -> x.feed(-1, -1, -1, -1, -1), new State().tape(full));
    }

    private static void words() {
        sentence("3: A WORD: nothing else changes but the tape");
        due("word", new State().tape("bd"), 6, x -> x.word(2, 70, 2), new State().tape("").more("bd", 70, 2));
        due("one of another TONGUE", new State().tape("bd"), 6, x -> x.word(2, 0, 1), new State().tape("").more("bd", 0, 1));
        State first = new State().words();
        due("the first one", first.tape("xyz"), 0, x -> x.word(3, 10, 2), new State().tape("").words("xyz").bar(0, false));
        due("the first one, of another TONGUE", new State().words().tape("xyz"), 0, x -> x.word(3, 10, 5), notSpoken());
        sentence("3: -2, NONE: nothing changes but the tape");
        empties("no LETTER", "b{", -2, x -> x.word(2, 70, 2));
        empties("it is a WORD", "ac", -2, x -> x.word(2, 70, 2));
        empties("it is a BARRED one", "ab", -2, x -> x.word(2, 70, 2));
        empties("it is one of another TONGUE", "ad", -2, x -> x.word(2, 70, 2));
        for (int n : new int[] {0, 9, -1, MIN, MAX}) {
            stays("n = " + n, -1, x -> x.word(n, 70, 2));
        }
        for (int n : new int[] {-1, 100}) {
            stays("KNOWN " + n, -1, x -> x.word(2, n, 2));
        }
        for (int n : new int[] {0, 16}) {
            stays("TONGUES " + n, -1, x -> x.word(2, 70, n));
        }
        lacks("not so many", -1, x -> x.word(1, 70, 2));
    }

    private static State notSpoken() {
        State state = new State().tape("").words("xyz").bar(0, false);
        state.tongues[0] = 5;
        return state;
    }

    private static void bars() {
        sentence("4: BARRED, or not: nothing else changes");
        due("bar(0, false)", new State(), 1, x -> x.bar(0, false) ? 1 : 0, new State().bar(0, false));
        due("bar(1, true)", new State(), 1, x -> x.bar(1, true) ? 1 : 0, new State().bar(1, true));
        due("of another TONGUE", new State(), 1, x -> x.bar(5, true) ? 1 : 0, new State().bar(5, true));
        stays("it is so", 0, x -> x.bar(0, true) ? 1 : 0);
        stays("it is not so", 0, x -> x.bar(1, false) ? 1 : 0);
        for (int w : new int[] {-1, 6, 40, MIN, MAX}) {
            stays("WORD " + w, 0, x -> x.bar(w, true) || x.bar(w, false) ? 1 : 0);
        }
    }

    private static void levels() {
        sentence("5: How well a WORD is KNOWN: nothing else changes");
        due("know(1, 99)", new State(), 1, x -> x.know(1, 99) ? 1 : 0, new State().know(1, 99));
        due("a BARRED one", new State(), 1, x -> x.know(0, 0) ? 1 : 0, new State().know(0, 0));
        due("one of another TONGUE", new State(), 1, x -> x.know(5, 1) ? 1 : 0, new State().know(5, 1));
        stays("as it is", 1, x -> x.know(2, 30) ? 1 : 0);
        stays("-1", 0, x -> x.know(2, -1) ? 1 : 0);
        stays("100", 0, x -> x.know(2, 100) ? 1 : 0);
        for (int w : new int[] {-1, 6, 40, MIN, MAX}) {
            stays("WORD " + w, 0, x -> x.know(w, 5) ? 1 : 0);
        }
    }

    private static void tongues() {
        sentence("6: SPOKEN: nothing else changes");
        for (int tongue = -1; tongue < 4; tongue++) {
            int to = tongue;
            due("speak " + to, new State(), 1, x -> x.speak(to) ? 1 : 0, new State().speak(to));
        }
        for (int none : new int[] {-2, 4, MIN, MAX}) {
            stays("speak " + none, 0, x -> x.speak(none) ? 1 : 0);
        }
    }

    private static void laws() {
        sentence("7: THE LAW: nothing else changes but the tape");
        String text = "c9(k=0);n(b=2)";
        due("law", new State().tape(text), 2, x -> x.law(14), new State().tape("").law(text));
        due("of the first bytes", new State().tape(text), 1, x -> x.law(7), new State().tape("").law("c9(k=0)"));
        sentence("7: a FAULT: the TEXT before stays; NONE: nothing changes");
        empties("FAULT 1", "c9(k=0);x", -1008, x -> x.law(9));
        empties("FAULT 1, the end", "c9(k=0);n(", -1010, x -> x.law(10));
        empties("FAULT 2", "c9(k=123456)", -2010, x -> x.law(12));
        empties("FAULT 4", "n(0=1);".repeat(12) + "n", -4084, x -> x.law(85));
        empties("FAULT 5", "c9(k=0);n(((((((", -5015, x -> x.law(16));
        for (int n : new int[] {0, -1, 21, 160, 161, MIN, MAX}) {
            stays("n = " + n, -1, x -> x.law(n));
        }
    }

    // ---- 8 to 17

    private static void steps() {
        sentence("8: a STEP: nothing changes");
        int[][] dues = {{1, 2, 3, 1, 1}, {1, 3, 3, 0, 0}, {3, 1, 2, 0, 0}, {2, 1, -2, -2, -2}, {1, 1, -2, -2, -2}, {0, 1, -2, -2, -2}, {1, 5, -2, -2, -2},
            {6, 1, -1, -1, -1}, {1, -1, -1, -1, -1}};
        for (int[] d : dues) {
            for (int what = -1; what < 4; what++) {
                int asked = what;
                stays("step " + d[0] + " " + d[1] + " " + asked, asked < 0 || asked > 2 ? -1 : d[asked + 2], x -> x.step(d[0], d[1], asked));
            }
        }
    }

    private static void leasts() {
        sentence("9: LEAST: nothing changes");
        int[] dues = {5, 3, 1, 2, -1};
        for (int what = -1; what < 4; what++) {
            int asked = what;
            stays("least 3 2 " + asked, dues[asked + 1], x -> x.least(3, 2, asked));
        }
        stays("how many STEPS", 2, x -> x.least(3, 2, 40));
        stays("to itself", 0, x -> x.least(4, 4, -1));
        stays("no way", -2, x -> x.least(2, 3, -1));
        stays("not USED", -2, x -> x.least(0, 0, 0));
        stays("of another TONGUE", -2, x -> x.least(5, 1, 40));
        for (int what : new int[] {39, 41, -2, MIN, MAX}) {
            stays("no place " + what, -1, x -> x.least(3, 2, what));
        }
        stays("no such WORD", -1, x -> x.least(6, 2, -1));
    }

    private static void rowsOfSteps() {
        sentence("10, 11: HOW MANY, WITHOUT: nothing changes");
        stays("howMany", 1, x -> x.howMany(3, 2));
        stays("howMany to itself", 1, x -> x.howMany(4, 4));
        stays("howMany, none", 0, x -> x.howMany(2, 3));
        stays("howMany, not USED", 0, x -> x.howMany(0, 0));
        stays("howMany, no such WORD", -1, x -> x.howMany(3, 6));
        stays("without", 2, x -> x.without(3, 2));
        stays("without none", 0, x -> x.without(3, 1));
        stays("without, no way", -2, x -> x.without(2, 3));
        stays("without, not USED", -2, x -> x.without(5, 5));
        stays("without, no such WORD", -1, x -> x.without(-1, 2));
    }

    private static void heaps() {
        sentence("12, 13: HEAPS: nothing changes");
        int[] lowest = {-2, 1, 2, 1, 4, -2, -1};
        for (int w = 0; w < 7; w++) {
            int asked = w;
            stays("heap " + asked, lowest[asked], x -> x.heap(asked));
        }
        stays("heaps", 3, LetterHeaps::heaps);
    }

    private static void twos() {
        sentence("14, 15: THE FAR TWO, BY WHICH MOST GO: nothing changes");
        int[] far = {-1, 5, 3, 2, -1};
        int[] between = {-1, 1, 1, -1};
        for (int what = -1; what < 4; what++) {
            int asked = what;
            stays("far " + asked, far[asked + 1], x -> x.far(asked));
            due("far " + asked + ", no USED WORD", none(), asked < 0 || asked > 2 ? -1 : -2, x -> x.far(asked), none());
        }
        for (int what = -1; what < 3; what++) {
            int asked = what;
            stays("between " + asked, between[asked + 1], x -> x.between(asked));
            due("between " + asked + ", no USED WORD", none(), asked < 0 || asked > 1 ? -1 : -2, x -> x.between(asked), none());
        }
    }

    /** cc is beside ac, acc and bc, that are of two HEAPS; so is abc, but cc is shorter. */
    private static void newWords() {
        sentence("16: A NEW WORD: nothing changes");
        int[] dues = {-1, 2, 3, 2, -1};
        for (int what = -1; what < 4; what++) {
            int asked = what;
            stays("newWord " + asked, dues[asked + 1], x -> x.newWord(asked));
            due("newWord " + asked + ", no USED WORD", none(), asked < 0 || asked > 2 ? -1 : -2, x -> x.newWord(asked), none());
        }
        for (int what = 9; what < 19; what++) {
            int asked = what;
            boolean isLetter = asked == 10 || asked == 11;
            stays("newWord " + asked, isLetter ? 2 : -1, x -> x.newWord(asked));
            due("newWord " + asked + ", no USED WORD", none(), asked < 10 || asked > 17 ? -1 : -2, x -> x.newWord(asked), none());
        }
    }

    private static void walks() {
        sentence("17: WALKS: nothing changes");
        stays("in none", 1, x -> x.walks(2, 2, 0));
        stays("in one", 1, x -> x.walks(1, 2, 1));
        stays("in ten", 1, x -> x.walks(1, 1, 10));
        stays("none", 0, x -> x.walks(2, 1, 5));
        stays("not USED", 0, x -> x.walks(0, 1, 1));
        stays("of another TONGUE", 0, x -> x.walks(5, 5, 0));
        for (int n : new int[] {-1, 11, MIN, MAX}) {
            stays("in " + n, -1, x -> x.walks(1, 2, n));
        }
        stays("no such WORD", -1, x -> x.walks(1, 6, 1));
    }

    // ---- 18 to 24

    private static void rows() {
        sentence("18: A ROW: nothing changes but the tape");
        int[] dues = {5, 3, 1, 2};
        for (int what = -1; what < 3; what++) {
            int asked = what;
            empties("row, " + asked, Desk.list(2, 1, 3), dues[asked + 1], x -> x.row(3, asked));
            empties("none, " + asked, Desk.list(2, 1, 4), -2, x -> x.row(3, asked));
            empties("BARRED, " + asked, Desk.list(2, 1, 0), -3, x -> x.row(3, asked));
            empties("of another TONGUE, " + asked, Desk.list(5, 1, 3), -3, x -> x.row(3, asked));
            empties("one twice, " + asked, Desk.list(2, 1, 2), -3, x -> x.row(3, asked));
            empties("no such WORD, " + asked, Desk.list(2, 6, 1), -3, x -> x.row(3, asked));
            stays("no such n, " + asked, -1, x -> x.row(1, asked));
            lacks("not so many, " + asked, -1, x -> x.row(3, asked));
        }
        for (int n : new int[] {0, 1, 11, 21, MIN, MAX}) {
            stays("n = " + n, -1, x -> x.row(n, -1));
        }
        for (int what : new int[] {-2, 3, MIN, MAX}) {
            stays("what " + what, -1, x -> x.row(3, what));
        }
    }

    private static void games() {
        sentence("19: A GAME: nothing changes but the tape");
        for (int what = 0; what < 2; what++) {
            int asked = what;
            empties("wins, " + asked, Desk.list(1, 2), asked == 0 ? 1 : 2, x -> x.game(2, asked));
            empties("loses, " + asked, Desk.list(2, 1, 3), asked == 0 ? 0 : -2, x -> x.game(3, asked));
            empties("BARRED, " + asked, Desk.list(0, 1), -3, x -> x.game(2, asked));
            empties("of another TONGUE, " + asked, Desk.list(1, 5), -3, x -> x.game(2, asked));
            empties("one twice, " + asked, Desk.list(1, 1), -3, x -> x.game(2, asked));
            empties("no such WORD, " + asked, Desk.list(1, 6), -3, x -> x.game(2, asked));
            lacks("not so many, " + asked, -1, x -> x.game(2, asked));
        }
        for (int n : new int[] {0, 1, 13, 21, MIN, MAX}) {
            stays("n = " + n, -1, x -> x.game(n, 0));
        }
        for (int what : new int[] {-1, 2, MIN, MAX}) {
            stays("what " + what, -1, x -> x.game(3, what));
        }
    }

    private static void spelled() {
        sentence("20: HOW FAR: nothing changes");
        stays("farBy", 3, x -> x.farBy(2, 4));
        stays("to itself", 0, x -> x.farBy(1, 1));
        stays("not USED", 1, x -> x.farBy(0, 5));
        stays("no such WORD", -1, x -> x.farBy(1, 6));
        sentence("21: NEAR: nothing changes but the tape");
        int[] dues = {1, 1, 2};
        for (int what = 0; what < 3; what++) {
            int asked = what;
            empties("near, " + asked, "dc", dues[asked], x -> x.near(2, asked));
            empties("no LETTER, " + asked, "d1", -2, x -> x.near(2, asked));
            due("no USED WORD, " + asked, none().tape("dc"), -2, x -> x.near(2, asked), none().tape(""));
            lacks("not so many, " + asked, -1, x -> x.near(1, asked));
        }
        for (int n : new int[] {0, 13, 21, MIN, MAX}) {
            stays("n = " + n, -1, x -> x.near(n, 0));
        }
        for (int what : new int[] {-1, 3, MIN, MAX}) {
            stays("what " + what, -1, x -> x.near(2, what));
        }
    }

    private static void clears() {
        sentence("22: CLEAR: nothing changes but the tape");
        for (int what = 0; what < 2; what++) {
            int asked = what;
            empties("clear, " + asked, Desk.list(0, 1, 4, 2), asked == 0 ? 3 : 13, x -> x.clear(4, 2, asked));
            empties("one twice, " + asked, Desk.list(0, 1, 0), -3, x -> x.clear(3, 2, asked));
            empties("no such WORD, " + asked, Desk.list(6), -3, x -> x.clear(1, 2, asked));
            lacks("not so many, " + asked, -1, x -> x.clear(1, 1, asked));
        }
        for (int n : new int[] {0, 15, 21, MIN, MAX}) {
            stays("n = " + n, -1, x -> x.clear(n, 1, 0));
        }
        for (int d : new int[] {0, 10, MIN, MAX}) {
            stays("d = " + d, -1, x -> x.clear(1, d, 0));
        }
        for (int what : new int[] {-1, 2, MIN, MAX}) {
            stays("what " + what, -1, x -> x.clear(1, 1, what));
        }
    }

    private static void rubbed() {
        sentence("23: RUBBED: nothing changes but the tape");
        empties("rubbed", "?c", 10, x -> x.rubbed(2));
        empties("none fits", "?q", 0, x -> x.rubbed(2));
        empties("no LETTER and no ?", "?@", -2, x -> x.rubbed(2));
        for (int n : new int[] {0, 9, 21, MIN, MAX}) {
            stays("n = " + n, -1, x -> x.rubbed(n));
        }
        lacks("not so many", -1, x -> x.rubbed(1));
    }

    private static void squares() {
        sentence("24: SQUARES: nothing changes");
        State with = new State().tape("").more("cc", 1, 2);
        int[] dues = {-1, 3, 1, 6, -1};
        for (int what = -2; what < 3; what++) {
            int asked = what;
            due("square 2 " + asked, with, dues[asked + 2], x -> x.square(2, asked), with);
        }
        stays("there is none", 0, x -> x.square(4, -1));
        stays("the first of none", -2, x -> x.square(4, 3));
        for (int n : new int[] {1, 5, MIN, MAX}) {
            stays("n = " + n, -1, x -> x.square(n, -1));
        }
        for (int what : new int[] {-2, 2, MIN, MAX}) {
            stays("what " + what, -1, x -> x.square(2, what));
        }
    }

    // ---- 25 to 29

    private static void seeds() {
        sentence("25: THE SEED: nothing else changes");
        for (int seed : new int[] {0, 1, 65535, 12345}) {
            due("seed " + seed, new State(), 1, x -> x.seed(seed) ? 1 : 0, new State().seed(seed));
        }
        for (int none : new int[] {-1, 65536, MIN, MAX}) {
            stays("seed " + none, 0, x -> x.seed(none) ? 1 : 0);
        }
    }

    private static void draws() {
        sentence("26: DRAWN: X, and nothing else changes");
        int first = (25173 * 12345 + 13849) % 65536;
        int second = (int) ((25173L * first + 13849) % 65536);
        int to = first % 2 == 0 ? 2 : 3;
        for (int what = 0; what < 2; what++) {
            int asked = what;
            due("once, " + asked, new State(), asked == 0 ? to : 2, x -> x.draw(1, 1, asked), new State().seed(first));
            due("there is no STEP, " + asked, new State(), asked == 0 ? 4 : 1, x -> x.draw(4, 2, asked), new State().seed(second));
            stays("not USED, " + asked, -2, x -> x.draw(0, 1, asked));
            stays("of another TONGUE, " + asked, -2, x -> x.draw(5, 60, asked));
        }
        for (int n : new int[] {0, 61, MIN, MAX}) {
            stays("n = " + n, -1, x -> x.draw(1, n, 0));
        }
        for (int what : new int[] {-1, 2, MIN, MAX}) {
            stays("what " + what, -1, x -> x.draw(1, 1, what));
        }
        stays("no such WORD", -1, x -> x.draw(6, 1, 0));
    }

    private static void offs() {
        sentence("27: TAKEN OFF: nothing else changes");
        due("off", new State(), 2, LetterHeaps::off, new State().words("ab", "ac", "acc", "bc", "xyz"));
        due("a USED one", new State().words("ab", "ac", "acc", "bc", "xyz"), 3, LetterHeaps::off, new State().words("ab", "ac", "acc", "bc"));
        due("a BARRED one, the only one", new State().words("ab"), 2, LetterHeaps::off, new State().words());
        due("of no WORDS", new State().words(), -1, LetterHeaps::off, new State().words());
        due("of no WORDS, the tape empty", new State().words().tape(""), -1, LetterHeaps::off, new State().words().tape(""));
    }

    private static void checks() {
        sentence("28: CHECK: nothing changes but the tape");
        empties("right", Desk.list(0, 0, 0, 0, 0, 0, 0, 2), -1, x -> x.check(1, 2));
        empties("of a BARRED one", Desk.list(0, 0, 0, 0, 0, 0, 0, 1), -1, x -> x.check(0, 2));
        empties("one is not so", Desk.list(0, 0, 0, 0, 0, 0, 0, 3), 1, x -> x.check(1, 2));
        empties("the first is not so", Desk.list(0, 0, 1, 0), 0, x -> x.check(1, 1));
        empties("n is above the length", Desk.list(0, 0, 0, 0, 0, 0, 0, 2, 0, 0, 0, 0), 2, x -> x.check(1, 3));
        empties("some are lacking", Desk.list(0, 0, 0, 0), 1, x -> x.check(1, 1));
        empties("all are lacking", "q", 0, x -> x.check(1, 0));
        for (int n : new int[] {-1, 9, 6, MIN, MAX}) {
            stays("n = " + n, -2, x -> x.check(1, n));
        }
        stays("no such WORD", -2, x -> x.check(6, 1));
        lacks("not so many", -2, x -> x.check(1, 1));
    }

    private static void counts() {
        sentence("29: counts: nothing changes");
        int[] whats = {-1, 0, 1, 2, 4, 5, 6, 19, 20, 25, 26, 60, 65, 66, 100, 101, 105, 106, 140, MIN, MAX};
        int[] dues = {-1, 6, 4, 3, 12345, 1, -1, -1, 2, 2, -1, 10, 60, -1, 0, 1, 0, -1, -1, -1, -1};
        for (int i = 0; i < whats.length; i++) {
            int what = whats[i];
            stays("count " + what, dues[i], x -> x.count(what));
        }
        due("count 3", new State(), 20, x -> x.count(3), new State());
    }
}
