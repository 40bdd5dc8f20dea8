/** One object under test, the ways to put texts on its tape, and a count of the answers that were not due. */
final class Desk {
    static int wrong = 0;
    static int asked = 0;

    LetterHeaps x = new LetterHeaps();

    static void due(String what, long want, long got) {
        asked++;
        if (got != want) {
            wrong++;
            System.out.println(what + " answered " + got + ", due is " + want);
        }
    }

    static void due(String what, boolean want, boolean got) {
        due(what, want ? 1 : 0, got ? 1 : 0);
    }

    static void end() {
        System.out.println(asked + " answers asked, " + wrong + " not as due");
        if (wrong != 0) {
            System.exit(1);
        }
    }

    /** Puts a text of signs 0 to 255 on the tape, filled up with z to twenties. */
    void tape(String text) {
        for (int i = 0; i == 0 || i < text.length(); i += 20) {
            int[] n = new int[5];
            for (int j = 0; j < 20; j++) {
                char sign = i + j < text.length() ? text.charAt(i + j) : 'z';
                n[j / 4] = n[j / 4] << 8 | sign;
            }
            if (x.feed(n[0], n[1], n[2], n[3], n[4]) < 20) {
                wrong++;
                System.out.println("the tape is full at " + text);
            }
        }
    }

    static String list(int... bytes) {
        StringBuilder s = new StringBuilder();
        for (int b : bytes) {
            s.append((char) b);
        }
        return s.toString();
    }

    int word(String row, int known, int tongues) {
        tape(row);
        return x.word(row.length(), known, tongues);
    }

    void words(String rows) {
        for (String row : rows.split(" ")) {
            due("word " + row, x.count(0), word(row, 50, 1));
        }
    }

    int law(String text) {
        tape(text);
        return x.law(text.length());
    }

    int row(int what, int... told) {
        tape(list(told));
        return x.row(told.length, what);
    }

    int game(int what, int... told) {
        tape(list(told));
        return x.game(told.length, what);
    }

    int clear(int d, int what, int... told) {
        tape(list(told));
        return x.clear(told.length, d, what);
    }

    int near(String text, int what) {
        tape(text);
        return x.near(text.length(), what);
    }

    long rubbed(String text) {
        tape(text);
        return x.rubbed(text.length());
    }

    int check(int w, int... numbers) {
        StringBuilder s = new StringBuilder();
        for (int n : numbers) {
            s.append(list(n >>> 24, n >> 16 & 255, n >> 8 & 255, n & 255));
        }
        tape(s.toString());
        return x.check(w, numbers.length);
    }

    /** The LETTERS of the NEW WORD. */
    String newRow() {
        StringBuilder s = new StringBuilder();
        for (int i = 0; i < 8 && x.newWord(10 + i) >= 0; i++) {
            s.append((char) ('a' + x.newWord(10 + i)));
        }
        return s.toString();
    }

    /** The row of least COST as numbers with blanks between. */
    String way(int a, int b) {
        StringBuilder s = new StringBuilder();
        for (int i = 0; i <= x.least(a, b, 40); i++) {
            s.append(i == 0 ? "" : " ").append(x.least(a, b, i));
        }
        return s.toString();
    }

    static void due(String what, String want, String got) {
        due(what + " (" + got + " for " + want + ")", true, want.equals(got));
    }
}
