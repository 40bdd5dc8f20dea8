/** Each call with numbers far out and at every bound, on an empty object and on a filled one, as PlainHeaps answers. */
public final class AnyNumbersTest {
    private static final int[] NUMBERS = {Integer.MIN_VALUE, Integer.MIN_VALUE + 1, -65536, -3, -2, -1, 0, 1, 2, 3, 4, 5, 7, 8, 9, 10, 11, 12, 13,
        14, 15, 16, 17, 18, 39, 40, 41, 60, 61, 99, 100, 101, 140, 160, 161, 200, 201, 65535, 65536, 1 << 30, Integer.MAX_VALUE - 1, Integer.MAX_VALUE};
    private static final int[] FEW = {Integer.MIN_VALUE, -2, -1, 0, 1, 2, 3, 5, 39, 40, 41, 64, 1 << 30, Integer.MAX_VALUE};

    /** What calls behind the 512th answer is free; one group of calls here has fewer than 150. */
    private static final int CALLS_AHEAD_OF_A_GROUP = 512 - 150;

    private final int words;
    private LetterHeaps real;
    private PlainHeaps plain;
    private int calls;

    private AnyNumbersTest(int howManyWords) {
        words = howManyWords;
    }

    public static void main(String[] args) {
        for (int words : new int[] {0, 3, 40}) {
            new AnyNumbersTest(words).run();
        }
        Desk.end();
    }

    private void same(String call, long want, long got) {
        calls++;
        Desk.due(call, want, got);
    }

    private void fillIfOld() {
        if (calls > CALLS_AHEAD_OF_A_GROUP) {
            fill();
        }
    }

    private void fill() {
        calls = 0;
        real = new LetterHeaps();
        plain = new PlainHeaps();
        for (int i = 0; i < words; i++) {
            int a = ('a' + i % 6) << 24 | ('a' + i / 6) << 16;
            same("feed", plain.feed(a, 0, 0, 0, 0), real.feed(a, 0, 0, 0, 0));
            same("word", plain.word(2, i, 1 + i % 15), real.word(2, i, 1 + i % 15));
        }
        feed();
    }

    /** Told WORDS first, then LETTERS, then anything else. */
    private void feed() {
        if (plain.tape.size() <= 180) {
            int[] n = plain.tape.isEmpty() ? new int[] {0x00010203, 0x61626364, -1, 0, 7} : new int[] {0x61626364, -1, 0, 1, 2};
            same("feed", plain.feed(n[0], n[1], n[2], n[3], n[4]), real.feed(n[0], n[1], n[2], n[3], n[4]));
        }
    }

    private void run() {
        fill();
        for (int n : NUMBERS) {
            fillIfOld();
            one(n);
            feed();
        }
        for (int a : FEW) {
            for (int b : NUMBERS) {
                fillIfOld();
                two(a, b);
                fillIfOld();
                three(a, b);
            }
        }
        fill();
        for (int n : NUMBERS) {
            fillIfOld();
            for (int m : FEW) {
                same("bar " + n, bit(plain.bar(n, m > 0)), bit(real.bar(n, m > 0)));
                same("know " + n + " " + m, bit(plain.know(n, m)), bit(real.know(n, m)));
            }
            same("seed " + n, bit(plain.seed(n)), bit(real.seed(n)));
            same("speak " + n, bit(plain.speak(n)), bit(real.speak(n)));
            same("used", plain.count(1), real.count(1));
        }
        fill();
        for (int i = 0; i <= words; i++) {
            same("off", plain.off(), real.off());
            same("heaps", plain.heaps(), real.heaps());
        }
    }

    private static int bit(boolean is) {
        return is ? 1 : 0;
    }

    private void one(int n) {
        same("count " + n, plain.count(n), real.count(n));
        same("heap " + n, plain.heap(n), real.heap(n));
        same("far " + n, plain.far(n), real.far(n));
        same("between " + n, plain.between(n), real.between(n));
        same("newWord " + n, plain.newWord(n), real.newWord(n));
        same("rubbed " + n, plain.rubbed(n), real.rubbed(n));
        feed();
        same("law " + n, plain.law(n), real.law(n));
        same("tape", plain.count(3), real.count(3));
    }

    private void two(int a, int b) {
        feed();
        same("row " + a + " " + b, plain.row(a, b), real.row(a, b));
        feed();
        same("game " + a + " " + b, plain.game(a, b), real.game(a, b));
        same("farBy " + a + " " + b, plain.farBy(a, b), real.farBy(a, b));
        feed();
        same("near " + a + " " + b, plain.near(a, b), real.near(a, b));
        feed();
        same("check " + a + " " + b, plain.check(a, b), real.check(a, b));
        if (a < 4) {
            same("square " + a + " " + b, plain.square(a, b), real.square(a, b));
        }
        same("howMany " + a + " " + b, plain.howMany(a, b), real.howMany(a, b));
        same("without " + a + " " + b, plain.without(a, b), real.without(a, b));
        same("tape", plain.count(3), real.count(3));
    }

    private void three(int a, int b) {
        for (int c : FEW) {
            same("step", plain.step(a, b, c), real.step(a, b, c));
            if (a <= 0 || b <= 0) {
                same("least " + a + " " + b + " " + c, plain.least(a, b, c), real.least(a, b, c));
                same("walks " + a + " " + b + " " + c, plain.walks(a, b, c), real.walks(a, b, c));
                same("draw " + a + " " + b + " " + c, plain.draw(a, b, c), real.draw(a, b, c));
            }
            feed();
            same("clear " + a + " " + b + " " + c, plain.clear(a, b, c), real.clear(a, b, c));
            same("word " + a + " " + b + " " + c, plain.word(a, b, c), real.word(a, b, c));
        }
    }
}
