/**
 * "USED are WORDS that are not BARRED and of that TONGUE": each call that asks about USED WORDS, with a WORD that is
 * in the way of it and is not USED, because it is BARRED, of another TONGUE, or both; as the first WORD and as the
 * last one. Then the same calls when it is USED.
 */
public final class UsedTest {
    private static final String[] WHY = {"BARRED", "of another TONGUE", "BARRED, of the TONGUE", "BARRED, of another TONGUE"};

    private UsedTest() {
    }

    public static void main(String[] args) {
        for (int why = 0; why < WHY.length; why++) {
            firstNotUsed(why);
            lastNotUsed(why);
        }
        firstUsed(false);
        firstUsed(true);
        lastUsed();
        for (int why = 0; why < WHY.length; why++) {
            lonely(why);
            noneUsed(why);
        }
        tonguesOfOneWord();
        Desk.end();
    }

    private static void due(String what, long want, long got) {
        Desk.due(what, want, got);
    }

    /** WORDS of TONGUE 0 and THE LAW that no two LETTERS be changed about; that one is not USED is made so behind them. */
    private static Desk words(int why, String rows, int one) {
        Desk desk = new Desk();
        String[] all = rows.split(" ");
        for (int w = 0; w < all.length; w++) {
            boolean isOther = w == one && (why == 1 || why == 3);
            desk.word(all[w], 10 * w, isOther ? 14 : w % 2 == 0 ? 1 : 9);
        }
        desk.law("n(k=3)");
        if (why != 1) {
            desk.x.bar(one, true);
        }
        if (why > 0) {
            desk.x.speak(0);
        }
        return desk;
    }

    private static void newWord(Desk desk, int heaps, int words, String row) {
        due("newWord 0", heaps, desk.x.newWord(0));
        due("newWord 1", words, desk.x.newWord(1));
        Desk.due("newWord's row", row, desk.newRow());
    }

    private static void refused(Desk desk, int w, int other) {
        due("it is not USED", 0, desk.x.count(100 + w));
        due("three are", 3, desk.x.count(1));
        for (int what = 0; what < 3; what++) {
            due("a STEP from it, " + what, -2, desk.x.step(w, other, what));
            due("a STEP to it, " + what, -2, desk.x.step(other, w, what));
        }
        for (int what : new int[] {-1, 0, 1, 40}) {
            due("LEAST from it, " + what, -2, desk.x.least(w, other, what));
            due("LEAST to it, " + what, -2, desk.x.least(other, w, what));
            due("LEAST to itself, " + what, -2, desk.x.least(w, w, what));
        }
        due("HOW MANY from it", 0, desk.x.howMany(w, other));
        due("HOW MANY to it", 0, desk.x.howMany(other, w));
        due("HOW MANY to itself", 0, desk.x.howMany(w, w));
        due("WITHOUT from it", -2, desk.x.without(w, other));
        due("WITHOUT to it", -2, desk.x.without(other, w));
        due("WITHOUT to itself", -2, desk.x.without(w, w));
        due("its HEAP", -2, desk.x.heap(w));
        due("WALKS from it", 0, desk.x.walks(w, other, 1));
        due("WALKS to it", 0, desk.x.walks(other, w, 1));
        due("WALKS to itself", 0, desk.x.walks(w, w, 0));
        for (int what = 0; what < 2; what++) {
            due("a ROW from it", -3, desk.row(what, w, other));
            due("a ROW to it", -3, desk.row(what, other, w));
            due("a GAME on it", -3, desk.game(what, w, other));
            due("a GAME by it", -3, desk.game(what, other, w));
            due("DRAWN from it", -2, desk.x.draw(w, 1, what));
        }
        due("HOW FAR it is (that it is USED is not asked)", 1, desk.x.farBy(w, other));
        due("CLEAR (not asked)", 3, desk.clear(1, 1, w, other));
    }

    /** aa would be between ba and ab, as bb is. */
    private static void firstNotUsed(int why) {
        Desk.sentence("USED: the first WORD is not: it is " + WHY[why]);
        Desk desk = words(why, "aa ba ab bb", 0);
        refused(desk, 0, 1);
        due("LEAST", 2, desk.x.least(1, 2, -1));
        Desk.due("not by it", "1 3 2", desk.way(1, 2));
        due("HOW MANY", 1, desk.x.howMany(1, 2));
        due("WITHOUT", 1 << 3, desk.x.without(1, 2));
        due("the HEAP of 3", 1, desk.x.heap(3));
        due("HEAPS", 1, desk.x.heaps());
        due("far", 2, desk.x.far(0));
        due("from", 1, desk.x.far(1));
        due("to", 2, desk.x.far(2));
        due("by which most go", 3, desk.x.between(0));
        due("of how many twos", 2, desk.x.between(1));
        newWord(desk, 1, 3, "b");
        due("WALKS", 1, desk.x.walks(1, 2, 2));
        due("WALKS around", 1, desk.x.walks(1, 1, 2));
        due("a ROW", 1, desk.row(0, 2, 3, 1));
        due("by 3", 3, desk.row(1, 2, 3, 1));
        due("NEAR: how far", 1, desk.near("aa", 0));
        due("NEAR: the lowest", 1, desk.near("aa", 1));
        due("NEAR: how many", 2, desk.near("aa", 2));
        due("RUBBED", 2, desk.rubbed("?a"));
        due("SQUARES", 7, desk.x.square(2, -1));
        due("the first", 1, desk.x.square(2, 0));
        due("and under it", 2, desk.x.square(2, 1));
        desk.x.seed(1);
        due("DRAWN", 3, desk.x.draw(1, 1, 0));
    }

    private static void lastNotUsed(int why) {
        Desk.sentence("USED: the last WORD is not: it is " + WHY[why]);
        Desk desk = words(why, "bb ab ba aa", 3);
        refused(desk, 3, 1);
        due("LEAST", 2, desk.x.least(1, 2, -1));
        due("HOW MANY", 1, desk.x.howMany(1, 2));
        due("WITHOUT", 1, desk.x.without(1, 2));
        due("HEAPS", 1, desk.x.heaps());
        due("far", 2, desk.x.far(0));
        due("to", 2, desk.x.far(2));
        due("by which most go", 0, desk.x.between(0));
        due("of how many twos", 2, desk.x.between(1));
        newWord(desk, 1, 3, "b");
        due("WALKS", 1, desk.x.walks(1, 2, 2));
        due("NEAR: how far", 1, desk.near("aa", 0));
        due("NEAR: how many", 2, desk.near("aa", 2));
        due("RUBBED", 4, desk.rubbed("?a"));
        due("SQUARES", 7, desk.x.square(2, -1));
        desk.x.seed(2);
        due("DRAWN (X is odd)", 0, desk.x.draw(1, 1, 0));
        due("DRAWN (X is even)", 0, desk.x.draw(1, 1, 0));
        due("the WORDS one was at (at 0 X is even each time)", 2, desk.x.draw(1, 60, 1));
    }

    private static void firstUsed(boolean bySpeaking) {
        Desk.sentence("USED: the first WORD is so again");
        Desk desk = words(bySpeaking ? 1 : 0, "aa ba ab bb", 0);
        due("HEAPS ahead of that", 1, desk.x.heaps());
        due("NEAR ahead of that", 1, desk.near("aa", 0));
        due("SQUARES ahead of that", 7, desk.x.square(2, -1));
        due("made so", 1, (bySpeaking ? desk.x.speak(-1) : desk.x.bar(0, false)) ? 1 : 0);
        due("four are USED", 4, desk.x.count(1));
        due("a STEP", 1, desk.x.step(0, 1, 0));
        due("LEAST", 2, desk.x.least(1, 2, -1));
        Desk.due("by it", "1 0 2", desk.way(1, 2));
        due("HOW MANY", 2, desk.x.howMany(1, 2));
        due("WITHOUT", 0, desk.x.without(1, 2));
        due("the HEAP of 3", 0, desk.x.heap(3));
        due("far from", 0, desk.x.far(1));
        due("to", 3, desk.x.far(2));
        due("by which most go", 0, desk.x.between(0));
        newWord(desk, 1, 3, "a");
        due("WALKS", 2, desk.x.walks(1, 2, 2));
        due("a ROW", 3, desk.row(-1, 0, 1, 2, 3));
        due("a GAME", 1, desk.game(0, 0, 1));
        due("NEAR", 0, desk.near("aa", 0));
        due("RUBBED", 3, desk.rubbed("?a"));
        due("SQUARES", 16, desk.x.square(2, -1));
        desk.x.seed(1);
        due("DRAWN", 0, desk.x.draw(1, 1, 0));
    }

    private static void lastUsed() {
        Desk.sentence("USED: the last WORD is so again");
        Desk desk = words(3, "bb ab ba aa", 3);
        due("SQUARES ahead of that", 7, desk.x.square(2, -1));
        desk.x.bar(3, false);
        due("not BARRED, of another TONGUE", 3, desk.x.count(1));
        due("HOW MANY still", 1, desk.x.howMany(1, 2));
        desk.x.speak(1);
        due("of that TONGUE, alone", 1, desk.x.count(1));
        due("its HEAP", 3, desk.x.heap(3));
        due("NEAR", 3, desk.near("bb", 1));
        desk.x.speak(-1);
        due("all four", 2, desk.x.howMany(1, 2));
        due("SQUARES", 16, desk.x.square(2, -1));
        due("NEAR", 3, desk.near("aa", 1));
    }

    /** WORD 0 is not USED, and by WORD 1 none go: it is the lowest all the same. */
    private static void lonely(int why) {
        Desk.sentence("USED: one WORD alone is, the first is " + WHY[why]);
        Desk desk = words(why, "a xyz", 0);
        due("HEAPS", 1, desk.x.heaps());
        due("by which most go", 1, desk.x.between(0));
        due("of how many twos", 0, desk.x.between(1));
        due("no two have a way", -2, desk.x.far(0));
        newWord(desk, 1, 1, "xy");
        due("NEAR", 1, desk.near("a", 1));
        due("how far", 3, desk.near("a", 0));
        due("how many", 1, desk.near("a", 2));
        due("RUBBED", 0, desk.rubbed("?"));
        due("LEAST to itself", 0, desk.x.least(1, 1, -1));
        due("WITHOUT to itself", 0, desk.x.without(1, 1));
    }

    private static void noneUsed(int why) {
        Desk.sentence("USED: no WORD is, each is " + WHY[why]);
        Desk desk = new Desk();
        for (String row : new String[] {"aa", "ab"}) {
            desk.word(row, 1, why == 1 || why == 3 ? 4 : 15);
            if (why != 1) {
                desk.x.bar(desk.x.count(0) - 1, true);
            }
        }
        desk.x.speak(why == 0 ? -1 : 3);
        due("USED", 0, desk.x.count(1));
        due("HEAPS", 0, desk.x.heaps());
        for (int what = 0; what < 2; what++) {
            due("far", -2, desk.x.far(what));
            due("between", -2, desk.x.between(what));
            due("newWord", -2, desk.x.newWord(what));
            due("NEAR", -2, desk.near("aa", what));
            due("the first SQUARE", -2, desk.x.square(2, what));
        }
        due("SQUARES", 0, desk.x.square(2, -1));
        due("RUBBED", 0, desk.rubbed("??"));
    }

    private static void tonguesOfOneWord() {
        Desk.sentence("SPOKEN is a TONGUE (0 to 3) or all: a WORD of some is USED by each of these and by all");
        for (int bits = 1; bits <= 15; bits++) {
            Desk desk = new Desk();
            desk.word("ab", 1, bits);
            for (int tongue = -1; tongue < 4; tongue++) {
                desk.x.speak(tongue);
                int is = tongue < 0 ? 1 : bits >> tongue & 1;
                due("bits " + bits + ", TONGUE " + tongue, is, desk.x.count(100));
                due("HEAPS", is, desk.x.heaps());
                due("NEAR", is == 1 ? 0 : -2, desk.near("ab", 0));
                due("RUBBED", is, desk.rubbed("??"));
            }
        }
    }
}
