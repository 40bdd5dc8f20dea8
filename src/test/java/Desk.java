/** One object under test, the ways to put texts on its tape, and a count of the answers that were not due. */
final class Desk {
    static int wrong = 0;
    static int asked = 0;
    private static int sentences = 0;
    private static String sentence = "";

    LetterHeaps x = new LetterHeaps();

    /** Tells which sentence of the document the answers asked from here on are due by. */
    static void sentence(String says) {
        sentences++;
        sentence = "[" + says + "] ";
    }

    static void due(String what, long want, long got) {
        asked++;
        if (got != want) {
            wrong++;
            System.out.println(sentence + what + " answered " + got + ", due is " + want);
        }
    }

    static void due(String what, boolean want, boolean got) {
        due(what, want ? 1 : 0, got ? 1 : 0);
    }

    static void end() {
        String of = sentences == 0 ? "" : " by " + sentences + " sentences";
        System.out.println(asked + " answers asked" + of + ", " + wrong + " not as due");
        if (wrong != 0) {
            System.exit(1);
        }
    }

    static Desk of(String rows) {
        Desk desk = new Desk();
        desk.words(rows);
        return desk;
    }

    /** WORDS of two LETTERS, 40 at most, each of which becomes the next one by another LETTER. */
    static Desk chain(int words) {
        Desk desk = new Desk();
        for (int w = 0; w < words; w++) {
            desk.words(chainRow(w));
        }
        return desk;
    }

    static String chainRow(int w) {
        return w < 26 ? (char) ('a' + w) + "a" : (char) ('z' + 26 - w) + "b";
    }

    /** Puts a text of signs 0 to 255 on the tape, filled up with z to twenties. */
    void tape(String text) {
        for (int i = 0; i == 0 || i < text.length(); i += 20) {
            int[] n = new int[5];
            for (int j = 0; j < 20; j++) {
                char sign = i + j < text.length() ? text.charAt(i + j) : 'z';
                n[j / 4] = n[j / 4] << 8 | sign;
            }
            if (x.feed(n[0], n[1], n[2], n[3], n[4]) < 20) {
                wrong++;
                System.out.println("the tape is full at " + text);
            }
        }
    }

    static String list(int... bytes) {
        StringBuilder s = new StringBuilder();
        for (int b : bytes) {
            s.append((char) b);
        }
        return s.toString();
    }

    int word(String row, int known, int tongues) {
        tape(row);
        return x.word(row.length(), known, tongues);
    }

    void words(String rows) {
        for (String row : rows.split(" ")) {
            due("word " + row, x.count(0), word(row, 50, 1));
        }
    }

    int law(String text) {
        tape(text);
        return x.law(text.length());
    }

    int lawOf(String text, int n) {
        tape(text);
        return x.law(n);
    }

    int row(int what, int... told) {
        tape(list(told));
        return x.row(told.length, what);
    }

    int rowOf(int n, int what, int... told) {
        tape(list(told));
        return x.row(n, what);
    }

    int game(int what, int... told) {
        tape(list(told));
        return x.game(told.length, what);
    }

    int clear(int d, int what, int... told) {
        tape(list(told));
        return x.clear(told.length, d, what);
    }

    int near(String text, int what) {
        tape(text);
        return x.near(text.length(), what);
    }

    long rubbed(String text) {
        tape(text);
        return x.rubbed(text.length());
    }

    long rubbedOf(String text, int n) {
        tape(text);
        return x.rubbed(n);
    }

    int check(int w, int... numbers) {
        StringBuilder s = new StringBuilder();
        for (int n : numbers) {
            s.append(list(n >>> 24, n >> 16 & 255, n >> 8 & 255, n & 255));
        }
        tape(s.toString());
        return x.check(w, numbers.length);
    }

    /** The LETTERS of the NEW WORD. */
    String newRow() {
        StringBuilder s = new StringBuilder();
        for (int i = 0; i < 8 && x.newWord(10 + i) >= 0; i++) {
            s.append((char) ('a' + x.newWord(10 + i)));
        }
        return s.toString();
    }

    /** The row of least COST as numbers with blanks between. */
    String way(int a, int b) {
        StringBuilder s = new StringBuilder();
        for (int i = 0; i <= x.least(a, b, 40); i++) {
            s.append(i == 0 ? "" : " ").append(x.least(a, b, i));
        }
        return s.toString();
    }

    static void due(String what, String want, String got) {
        due(what + " (" + got + " for " + want + ")", true, want.equals(got));
    }

    void fillTape(int bytes) {
        while (x.count(3) < bytes) {
            tape("z");
        }
    }

    /** What each call that takes nothing from the tape tells, all TONGUES tried; some 200 calls for four WORDS. */
    String state() {
        StringBuilder s = new StringBuilder("counts");
        for (int what = 0; what < 6; what++) {
            s.append(' ').append(x.count(what));
        }
        s.append(" by all ").append(x.heaps()).append(' ').append(x.square(2, -1)).append(' ').append(x.square(3, -1));
        for (int what = 0; what < 3; what++) {
            s.append(' ').append(x.far(what)).append(' ').append(x.between(what)).append(' ').append(x.newWord(what));
        }
        int size = x.count(0);
        for (int a = 0; a < size; a++) {
            s.append(" word ").append(x.count(20 + a)).append(' ').append(x.count(60 + a)).append(' ').append(x.heap(a));
            for (int b = 0; b < size; b++) {
                s.append(' ').append(x.step(a, b, 0)).append(' ').append(x.farBy(a, b)).append(' ').append(x.least(a, b, -1));
                s.append(' ').append(x.howMany(a, b)).append(' ').append(x.without(a, b)).append(' ').append(x.walks(a, b, 3));
            }
        }
        tongues(s, size);
        return s.toString();
    }

    private void tongues(StringBuilder s, int size) {
        int spoken = x.count(5);
        for (int tongue = -1; tongue < 4; tongue++) {
            s.append(" tongue ").append(x.speak(tongue));
            for (int w = 0; w < size; w++) {
                s.append(x.count(100 + w));
            }
        }
        x.speak(spoken);
    }
}
