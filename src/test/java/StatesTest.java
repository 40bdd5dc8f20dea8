/**
 * "A call that is refused (NONE, false) changes nothing but the tape, where it is told", and what is told first
 * where several fit: each such call on an object of its own, with all that can be asked before and behind it.
 */
public final class StatesTest {
    private static final String LAW = "c7(a=0&b=1);c8(a=1&b=0);c9(a=1&b=2)";
    private static final int FED = 40;

    private interface Call {
        long on(LetterHeaps x);
    }

    private StatesTest() {
    }

    public static void main(String[] args) {
        statesAreTold();
        changesAreSeen();
        words();
        laws();
        ways();
        told();
        spelled();
        others();
        notOnTheTape();
        fortyWords();
        fullTape();
        noneThenFaultThenTwo();
        Desk.end();
    }

    private static void sentence(String says) {
        Desk.sentence(says);
    }

    /** WORDS 0 to 3, the last BARRED, of various TONGUES; a LAW; a SEED; on the tape a text of 40 bytes or none. */
    private static Desk filled(String tape) {
        Desk desk = new Desk();
        desk.word("ab", 10, 1);
        desk.word("ac", 20, 3);
        desk.word("acc", 30, 14);
        desk.word("bc", 40, 15);
        desk.x.bar(3, true);
        desk.law("c3(a=0);n(a=2&b=1)");
        desk.x.seed(77);
        if (!tape.isEmpty()) {
            desk.tape(tape);
        }
        return desk;
    }

    /** The state and the tape stay; what stands on the tape is shown by its being read as a LAW. */
    private static void stays(String call, long want, Call one) {
        Desk desk = filled(LAW);
        String before = desk.state();
        Desk.due(call, want, one.on(desk.x));
        Desk.due(call + ", all but the tape", before, desk.state());
        Desk.due(call + ", the tape", FED, desk.x.count(3));
        Desk.due(call + ", its bytes", 3, desk.x.law(LAW.length()));
        Desk.due(call + ", their first CLAUSE", 7, desk.x.step(0, 1, 0));
        Desk.due(call + ", their second", 8, desk.x.step(1, 0, 0));
        Desk.due(call + ", their last", 9, desk.x.step(1, 2, 0));
    }

    /** All but the tape stays; the tape is empty then. */
    private static void empties(String call, long want, String tape, Call one) {
        Desk desk = filled(tape);
        String before = desk.state();
        Desk.due(call, want, one.on(desk.x));
        Desk.due(call + ", the tape", 0, desk.x.count(3));
        desk.fillTape(tape.length() <= 20 ? 20 : FED);
        Desk.due(call + ", all but the tape", before, desk.state());
    }

    private static void statesAreTold() {
        sentence("(what the states tell is not always alike)");
        String before = filled("").state();
        Desk.due("a BARRED one more", false, changed(before, x -> x.bar(0, true) ? 1 : 0));
        Desk.due("KNOWN otherwise", false, changed(before, x -> x.know(3, 41) ? 1 : 0));
        Desk.due("another TONGUE", false, changed(before, x -> x.speak(1) ? 1 : 0));
        Desk.due("another SEED", false, changed(before, x -> x.seed(78) ? 1 : 0));
        Desk.due("one WORD less", false, changed(before, LetterHeaps::off));
        Desk.due("the tape", false, changed(before, x -> x.feed(0, 0, 0, 0, 0)));
        Desk.due("X", false, changed(before, x -> x.draw(1, 1, 0)));
        Desk.due("nothing", true, changed(before, x -> x.heaps()));
    }

    /** What was asked ahead of a change must not tell in what is asked behind it. */
    private static void changesAreSeen() {
        sentence("a call that is not refused is seen by all that are asked behind it");
        Call[] calls = {x -> fedWord(x, 0x62000000, 1), x -> fedWord(x, 0x61626300, 3), x -> x.bar(0, true) ? 1 : 0, x -> x.bar(3, false) ? 1 : 0,
            x -> x.know(0, 33) ? 1 : 0, x -> x.speak(0) ? 1 : 0, x -> x.speak(1) ? 1 : 0, LetterHeaps::off, x -> x.off() + x.off()};
        for (int i = 0; i < calls.length; i++) {
            changeIsSeen("change " + i, "c3(a=0);cf/3(a=2|a=1);n(a=2&b=1)", calls[i]);
            changeIsSeen("change " + i, "n(k=2);cg(k=1)", calls[i]);
            for (int j = 0; j < calls.length; j++) {
                Call first = calls[i];
                Call second = calls[j];
                changeIsSeen("change " + i + " and " + j, "cg+1(a=0)", x -> 1000 * first.on(x) + second.on(x));
            }
        }
        changeIsSeen("another LAW", "c9(k=1)", x -> fedLaw(x, 0x6e286b3d, 0x32290000, 6));
    }

    private static void changeIsSeen(String change, String law, Call one) {
        Desk asked = filled("");
        Desk fresh = filled("");
        asked.law(law);
        fresh.law(law);
        asked.state();
        askAll(asked.x);
        Desk.due(change + " answers alike", one.on(fresh.x), one.on(asked.x));
        Desk.due(change, fresh.state(), asked.state());
    }

    /** Behind the last change, so that what is kept from it is kept up to the next one. */
    private static void askAll(LetterHeaps x) {
        Desk.due("asked: HEAPS by no WORD", true, x.heaps() <= x.count(1));
        Desk.due("asked: far, between, newWord, square", true, x.far(0) != -1 && x.between(0) != -1 && x.newWord(0) != -1 && x.square(2, -1) != -1);
    }

    private static long fedWord(LetterHeaps x, int letters, int n) {
        x.feed(letters, 0, 0, 0, 0);
        return x.word(n, 60, 7);
    }

    private static long fedLaw(LetterHeaps x, int first, int second, int n) {
        x.feed(first, second, 0, 0, 0);
        return x.law(n);
    }

    private static boolean changed(String before, Call one) {
        Desk desk = filled("");
        one.on(desk.x);
        return before.equals(desk.state());
    }

    private static void words() {
        sentence("3 to 6: a refused call changes nothing");
        stays("word(0, ..)", -1, x -> x.word(0, 1, 1));
        stays("word(9, ..)", -1, x -> x.word(9, 1, 1));
        stays("word(.., -1, ..)", -1, x -> x.word(1, -1, 1));
        stays("word(.., 100, ..)", -1, x -> x.word(1, 100, 1));
        stays("word(.., 0)", -1, x -> x.word(1, 1, 0));
        stays("word(.., 16)", -1, x -> x.word(1, 1, 16));
        stays("bar(-1)", 0, x -> x.bar(-1, true) ? 1 : 0);
        stays("bar(4)", 0, x -> x.bar(4, true) ? 1 : 0);
        stays("bar(4, false)", 0, x -> x.bar(4, false) ? 1 : 0);
        stays("bar: it is not so BARRED", 0, x -> x.bar(0, false) ? 1 : 0);
        stays("bar: it is BARRED", 0, x -> x.bar(3, true) ? 1 : 0);
        stays("know(-1)", 0, x -> x.know(-1, 5) ? 1 : 0);
        stays("know(4)", 0, x -> x.know(4, 5) ? 1 : 0);
        stays("know: -1", 0, x -> x.know(0, -1) ? 1 : 0);
        stays("know: 100", 0, x -> x.know(0, 100) ? 1 : 0);
        stays("speak(-2)", 0, x -> x.speak(-2) ? 1 : 0);
        stays("speak(4)", 0, x -> x.speak(4) ? 1 : 0);
        sentence("3: empty then, by -2 too");
        empties("word: no LETTER", -2, "a{", x -> x.word(2, 1, 1));
        empties("word: it is a WORD", -2, "ac", x -> x.word(2, 1, 1));
        empties("word: it is a BARRED WORD", -2, "bc", x -> x.word(2, 1, 1));
    }

    private static void laws() {
        sentence("7: a refused call changes nothing");
        stays("law(0)", -1, x -> x.law(0));
        stays("law(-1)", -1, x -> x.law(-1));
        stays("law(161)", -1, x -> x.law(161));
        stays("law(41)", -1, x -> x.law(FED + 1));
        stays("law(160)", -1, x -> x.law(160));
        sentence("7: a FAULT: the TEXT before stays, the tape is empty then");
        empties("FAULT 1", -1000, "x", x -> x.law(1));
        empties("FAULT 1 at the end", -1034, LAW, x -> x.law(34));
        empties("FAULT 2", -2007, "n(123456=0)", x -> x.law(11));
        empties("FAULT 5", -5007, "n(((((((0=0)))))))", x -> x.law(18));
    }

    private static void ways() {
        sentence("8 to 17: a refused call changes nothing");
        stays("step(-1, ..)", -1, x -> x.step(-1, 0, 0));
        stays("step(.., 4, ..)", -1, x -> x.step(0, 4, 0));
        stays("step(.., 3)", -1, x -> x.step(0, 1, 3));
        stays("step: there is none", -2, x -> x.step(2, 1, 0));
        stays("least(4, ..)", -1, x -> x.least(4, 0, -1));
        stays("least: no such place", -1, x -> x.least(0, 1, 2));
        stays("least: no way", -2, x -> x.least(2, 0, -1));
        stays("howMany(4, ..)", -1, x -> x.howMany(4, 0));
        stays("howMany: none", 0, x -> x.howMany(2, 0));
        stays("without(.., 4)", -1, x -> x.without(0, 4));
        stays("without: no way", -2, x -> x.without(2, 0));
        stays("heap(4)", -1, x -> x.heap(4));
        stays("heap: not USED", -2, x -> x.heap(3));
        stays("far(3)", -1, x -> x.far(3));
        stays("between(2)", -1, x -> x.between(2));
        stays("newWord(3)", -1, x -> x.newWord(3));
        stays("newWord: no such place", -1, x -> x.newWord(17));
        stays("walks(4, ..)", -1, x -> x.walks(4, 0, 1));
        stays("walks(.., 11)", -1, x -> x.walks(0, 0, 11));
        stays("walks: not USED", 0, x -> x.walks(3, 3, 0));
    }

    private static void told() {
        sentence("18, 19, 22: a refused call changes nothing (the tape stays)");
        stays("row(1, ..)", -1, x -> x.row(1, -1));
        stays("row(11, ..)", -1, x -> x.row(11, -1));
        stays("row(.., -2)", -1, x -> x.row(2, -2));
        stays("row(2, 2)", -1, x -> x.row(2, 2));
        stays("game(1, ..)", -1, x -> x.game(1, 0));
        stays("game(13, ..)", -1, x -> x.game(13, 0));
        stays("game(.., -1)", -1, x -> x.game(2, -1));
        stays("game(.., 2)", -1, x -> x.game(2, 2));
        stays("clear(0, ..)", -1, x -> x.clear(0, 1, 0));
        stays("clear(15, ..)", -1, x -> x.clear(15, 1, 0));
        stays("clear(.., 0, ..)", -1, x -> x.clear(1, 0, 0));
        stays("clear(.., 10, ..)", -1, x -> x.clear(1, 10, 0));
        stays("clear(.., -1)", -1, x -> x.clear(1, 1, -1));
        stays("clear(.., 2)", -1, x -> x.clear(1, 1, 2));
        sentence("18, 19, 22: empty then, by -2 and -3 too");
        empties("row: there is none", -2, Desk.list(2, 0), x -> x.row(2, -1));
        empties("row: no such WORD", -3, Desk.list(0, 4), x -> x.row(2, -1));
        empties("row: one twice", -3, Desk.list(1, 1), x -> x.row(2, 0));
        empties("row: not USED", -3, Desk.list(1, 3), x -> x.row(2, 1));
        empties("game: loses", -2, Desk.list(2, 1), x -> x.game(2, 1));
        empties("game: no such WORD", -3, Desk.list(0, 4), x -> x.game(2, 0));
        empties("game: one twice", -3, Desk.list(1, 1), x -> x.game(2, 0));
        empties("game: not USED", -3, Desk.list(1, 3), x -> x.game(2, 1));
        empties("clear: no such WORD", -3, Desk.list(0, 4), x -> x.clear(2, 1, 0));
        empties("clear: one twice", -3, Desk.list(1, 1), x -> x.clear(2, 1, 1));
    }

    private static void spelled() {
        sentence("20, 21, 23, 24: a refused call changes nothing (the tape stays)");
        stays("farBy(-1, ..)", -1, x -> x.farBy(-1, 0));
        stays("farBy(.., 4)", -1, x -> x.farBy(0, 4));
        stays("near(0, ..)", -1, x -> x.near(0, 0));
        stays("near(13, ..)", -1, x -> x.near(13, 0));
        stays("near(.., -1)", -1, x -> x.near(1, -1));
        stays("near(.., 3)", -1, x -> x.near(1, 3));
        stays("rubbed(0)", -1, x -> x.rubbed(0));
        stays("rubbed(9)", -1, x -> x.rubbed(9));
        stays("square(1, ..)", -1, x -> x.square(1, -1));
        stays("square(5, ..)", -1, x -> x.square(5, -1));
        stays("square(2, 2)", -1, x -> x.square(2, 2));
        stays("square: there is none", -2, x -> x.square(4, 0));
        sentence("21, 23: empty then, by -2 too");
        empties("near: no LETTER", -2, "a1", x -> x.near(2, 0));
        empties("rubbed: no LETTER and no ?", -2, "a1", x -> x.rubbed(2));
    }

    private static void others() {
        sentence("25, 26, 28, 29: a refused call changes nothing");
        stays("seed(-1)", 0, x -> x.seed(-1) ? 1 : 0);
        stays("seed(65536)", 0, x -> x.seed(65536) ? 1 : 0);
        stays("draw(4, ..)", -1, x -> x.draw(4, 1, 0));
        stays("draw(.., 0, ..)", -1, x -> x.draw(0, 0, 0));
        stays("draw(.., 61, ..)", -1, x -> x.draw(0, 61, 0));
        stays("draw(.., 2)", -1, x -> x.draw(0, 1, 2));
        stays("draw: not USED", -2, x -> x.draw(3, 1, 0));
        stays("check(4, ..)", -2, x -> x.check(4, 1));
        stays("check(.., -1)", -2, x -> x.check(0, -1));
        stays("check(.., 9)", -2, x -> x.check(0, 9));
        stays("count(6)", -1, x -> x.count(6));
        stays("count(24)", -1, x -> x.count(24));
        stays("count(140)", -1, x -> x.count(140));
        sentence("28: has not so many (the tape stays)");
        Desk desk = filled("");
        desk.x.feed(0, 1, 0, 0, 0);
        String before = desk.state();
        Desk.due("6 numbers of 5", -2, desk.x.check(0, 6));
        Desk.due("all", before, desk.state());
        Desk.due("2 of them", -1, desk.x.check(0, 2));
    }

    private static void notOnTheTape() {
        sentence("NONE: it has not so many (of an empty tape): it changes nothing");
        Call[] calls = {x -> x.word(1, 1, 1), x -> x.word(8, 1, 1), x -> x.law(1), x -> x.law(160), x -> x.row(2, -1), x -> x.row(10, 9),
            x -> x.game(2, 0), x -> x.game(12, 1), x -> x.near(1, 0), x -> x.near(12, 2), x -> x.clear(1, 1, 0), x -> x.clear(14, 9, 1),
            x -> x.rubbed(1), x -> x.rubbed(8), x -> x.check(0, 1) + 1, x -> x.check(0, 8) + 1};
        for (int i = 0; i < calls.length; i++) {
            Desk desk = filled("");
            String before = desk.state();
            Desk.due("call " + i, -1, calls[i].on(desk.x));
            Desk.due("call " + i + ", all", before, desk.state());
            Desk.due("call " + i + ", what is fed then is the first on the tape", 3, desk.law(LAW));
        }
        Desk none = new Desk();
        Desk.due("off of no WORDS", -1, none.x.off());
        Desk.due("WORDS", 0, none.x.count(0));
        Desk.due("a WORD comes then", 0, none.word("a", 1, 1));
    }

    private static void fortyWords() {
        sentence("3: NONE: 40 are there (the tape stays, nothing changes)");
        Desk desk = Desk.chain(40);
        desk.x.seed(5);
        desk.tape("xyz");
        int used = desk.x.count(1);
        Desk.due("the 41st", -1, desk.x.word(3, 9, 2));
        int[] counts = {40, used, 0, 20, 5, -1};
        for (int what = 0; what < counts.length; what++) {
            Desk.due("count " + what, counts[what], desk.x.count(what));
        }
        Desk.due("the last WORD is as it was", 2, desk.x.count(59));
        Desk.due("and KNOWN so", 50, desk.x.count(99));
        Desk.due("the tape's bytes: it is read once there is room", 40, desk.x.off() + desk.x.word(3, 9, 2) - 1);
        Desk.due("its length", 3, desk.x.count(59));
    }

    private static void fullTape() {
        sentence("2: NONE if that would be more than 200: nothing changes");
        Desk desk = filled(LAW);
        desk.fillTape(200);
        String before = desk.state();
        Desk.due("feed", -1, desk.x.feed(0, 0, 0, 0, 0));
        Desk.due("all", before, desk.state());
        Desk.due("its bytes", 3, desk.x.law(LAW.length()));
        Desk.due("by them", 9, desk.x.step(1, 2, 0));
    }

    private static void noneThenFaultThenTwo() {
        sentence("NONE is told first, then a FAULT, then -2, then -3");
        Desk desk = filled("x{");
        Desk.due("7: no such n, ahead of a FAULT", -1, desk.x.law(161));
        Desk.due("7: has not so many, ahead of a FAULT", -1, desk.x.law(21));
        Desk.due("3: no such ones, ahead of no LETTER", -1, desk.x.word(2, 100, 1));
        Desk.due("21: no such what, ahead of no LETTER", -1, desk.x.near(2, 3));
        Desk.due("23: no such n, ahead of no LETTER", -1, desk.x.rubbed(9));
        Desk.due("18: no such what, ahead of no such WORDS", -1, desk.x.row(2, 2));
        Desk.due("19: no such what, ahead of no such WORDS", -1, desk.x.game(2, 2));
        Desk.due("22: no such d, ahead of no such WORDS", -1, desk.x.clear(2, 0, 0));
        Desk.due("28: -2 is told in its place", -2, desk.x.check(4, 0));
        Desk.due("the tape stays by all of these", 20, desk.x.count(3));
        Desk.due("8: no such what, ahead of no STEP", -1, desk.x.step(2, 1, -1));
        Desk.due("9: no such WORD, ahead of one that is not USED", -1, desk.x.least(3, 4, -1));
        Desk.due("9: a place that is not there, behind no way", -2, desk.x.least(2, 0, 30));
        Desk.due("11: no such WORD, ahead of one that is not USED", -1, desk.x.without(3, 4));
        Desk.due("17: no such n, ahead of one that is not USED", -1, desk.x.walks(3, 3, 11));
        Desk.due("24: no such what, ahead of no SQUARE", -1, desk.x.square(4, 4));
        Desk.due("26: no such n, ahead of one that is not USED", -1, desk.x.draw(3, 61, 0));
        desk.x.speak(0);
        desk.x.bar(0, true);
        desk.x.bar(1, true);
        Desk.due("14: no such what, ahead of no two", -1, desk.x.far(3));
        Desk.due("15: no such what, ahead of no USED WORD", -1, desk.x.between(2));
        Desk.due("16: no such what, ahead of no USED WORD", -1, desk.x.newWord(18));
        Desk.due("16: a place that is not there, behind no USED WORD", -2, desk.x.newWord(17));
        Desk.due("18: -3 ahead of -2", -3, desk.rowOf(2, -1, 0, 2));
    }
}
