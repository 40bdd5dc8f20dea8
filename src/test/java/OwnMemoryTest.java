import java.util.ArrayList;
import java.util.List;

/**
 * "All memory is the tongue's own": the calls of several objects by turns, one of each, must answer as they do on
 * objects that are alone.
 */
public final class OwnMemoryTest {
    private interface Call {
        long on(LetterHeaps x);
    }

    private final List<Call> calls = new ArrayList<>();

    private OwnMemoryTest() {
    }

    public static void main(String[] args) {
        Desk.sentence("All memory is the tongue's own");
        OwnMemoryTest[] all = {
            new OwnMemoryTest().words("ab ac acc bc xyz ad", 1).law("c3(a=1);n(a=2&b=1);cg/9(b=1)").seed(12345).ask(6),
            new OwnMemoryTest().words("zzzz zzy zy zyz yzz q", 5).law("n(k=0&i=1)").seed(7).ask(6),
            new OwnMemoryTest().words("a b c d aa bb ab ba", 15).seed(65535).ask(6),
            new OwnMemoryTest().words("ten ice bit ben", 2).law("c9-l(0=0);n(a=3);n(b=0&k=1);c7(k=2)").ask(4)};
        for (OwnMemoryTest one : all) {
            for (OwnMemoryTest other : all) {
                byTurns(one, other);
            }
        }
        Desk.end();
    }

    private static void byTurns(OwnMemoryTest one, OwnMemoryTest other) {
        Desk.due("as many calls as are promised", true, Math.max(one.calls.size(), other.calls.size()) <= 512);
        long[] oneAlone = one.answers();
        long[] otherAlone = other.answers();
        LetterHeaps x = new LetterHeaps();
        LetterHeaps y = new LetterHeaps();
        for (int i = 0; i < Math.max(oneAlone.length, otherAlone.length); i++) {
            if (i < oneAlone.length) {
                Desk.due("the one's call " + i, oneAlone[i], one.calls.get(i).on(x));
            }
            if (i < otherAlone.length) {
                Desk.due("the other's call " + i, otherAlone[i], other.calls.get(i).on(y));
            }
        }
    }

    private long[] answers() {
        LetterHeaps x = new LetterHeaps();
        long[] all = new long[calls.size()];
        for (int i = 0; i < all.length; i++) {
            all[i] = calls.get(i).on(x);
        }
        return all;
    }

    private OwnMemoryTest add(Call call) {
        calls.add(call);
        return this;
    }

    private OwnMemoryTest tape(String text) {
        for (int from = 0; from < text.length(); from += 20) {
            int[] n = new int[5];
            for (int i = 0; i < 20; i++) {
                n[i / 4] = n[i / 4] << 8 | (from + i < text.length() ? text.charAt(from + i) : 0);
            }
            add(x -> x.feed(n[0], n[1], n[2], n[3], n[4]));
        }
        return this;
    }

    private OwnMemoryTest words(String rows, int tongues) {
        for (String row : rows.split(" ")) {
            int known = 11 * row.length();
            tape(row).add(x -> x.word(row.length(), known, tongues));
        }
        return this;
    }

    private OwnMemoryTest law(String text) {
        return tape(text).add(x -> x.law(text.length()));
    }

    private OwnMemoryTest seed(int seed) {
        return add(x -> x.seed(seed) ? 1 : 0);
    }

    /** All calls, those that tell one of several things once each, so that what is kept of one is told by the next. */
    private OwnMemoryTest ask(int size) {
        askWords(size);
        add(x -> x.bar(1, true) ? 1 : 0).add(x -> x.know(0, 5) ? 1 : 0);
        askWords(size);
        law("c4(b=0);c2(k<9);n(a=1)").askAll();
        add(x -> x.speak(0) ? 1 : 0);
        askAll();
        add(x -> x.off());
        askAll();
        return this;
    }

    private void askWords(int size) {
        askAll();
        for (int a = 0; a < size; a++) {
            int w = a;
            for (int b = 0; b < size; b += 2) {
                int to = b;
                add(x -> x.step(w, to, 0)).add(x -> x.least(w, to, -1)).add(x -> x.howMany(w, to));
            }
            add(x -> x.heap(w)).add(x -> x.count(20 + w)).add(x -> x.count(60 + w)).add(x -> x.count(100 + w));
            add(x -> x.step(w, w ^ 1, 1)).add(x -> x.step(w, w ^ 1, 2)).add(x -> x.least(w, 0, 1)).add(x -> x.without(w, 2));
        }
    }

    private void askAll() {
        add(x -> x.step(0, 1, 0)).add(x -> x.step(0, 2, 0)).add(x -> x.step(2, 0, 0)).add(x -> x.least(2, 0, -1)).add(x -> x.howMany(2, 0));
        tape("zz");
        add(x -> x.count(0)).add(x -> x.count(1)).add(x -> x.count(2)).add(x -> x.count(3)).add(x -> x.count(4)).add(x -> x.count(5));
        add(x -> x.heaps()).add(x -> x.far(0)).add(x -> x.far(1)).add(x -> x.far(2)).add(x -> x.between(0)).add(x -> x.between(1));
        add(x -> x.newWord(0)).add(x -> x.newWord(1)).add(x -> x.newWord(2)).add(x -> x.newWord(10)).add(x -> x.newWord(11));
        add(x -> x.heaps()).add(x -> x.far(0)).add(x -> x.between(0)).add(x -> x.newWord(0)).add(x -> x.newWord(1)).add(x -> x.newWord(10));
        add(x -> x.square(3, -1)).add(x -> x.square(3, 2)).add(x -> x.square(2, -1)).add(x -> x.square(2, 0)).add(x -> x.square(2, 1));
        add(x -> x.walks(0, 2, 4)).add(x -> x.farBy(0, 3)).add(x -> x.draw(0, 3, 0)).add(x -> x.draw(0, 3, 1));
        add(x -> x.near(2, 1));
        tape("" + (char) 2 + (char) 0 + (char) 3).add(x -> x.row(3, -1));
        tape("" + (char) 2 + (char) 0 + (char) 3).add(x -> x.game(3, 1));
        tape("" + (char) 2 + (char) 0 + (char) 3).add(x -> x.clear(3, 2, 1));
        tape("?b").add(x -> x.rubbed(2));
        tape("" + (char) 0 + (char) 0 + (char) 0 + (char) 0).add(x -> x.check(0, 1));
    }
}
