/**
 * What is told by the tape or spelled (promises 18 to 24): each sentence that names a bound or tells what
 * comes first of like ones, with answers on both sides, and the tape behind a refused call.
 */
public final class ToldBoundsTest {
    private static final int MIN = Integer.MIN_VALUE;
    private static final int MAX = Integer.MAX_VALUE;

    private ToldBoundsTest() {
    }

    public static void main(String[] args) {
        rowLeastCost();
        rowOfLikeOnes();
        rowEachOnce();
        rowByStepsAlone();
        rowNumbers();
        rowWhat();
        rowTape();
        rowNone();
        rowNotToldRight();
        rowNotToldRightAnywhere();
        rowOrder();
        gameTurns();
        gameWhat();
        gameLowest();
        gameNumbers();
        gameTape();
        gameByEachNumber();
        gameNotToldRight();
        gameNotToldRightAnywhere();
        farByChanges();
        farByWords();
        nearLeastFar();
        nearNumbers();
        nearTape();
        nearNone();
        clearFar();
        clearOfLikeOnes();
        clearNumbers();
        clearTape();
        clearNotToldRight();
        clearNotToldRightAnywhere();
        clearNotUsed();
        rubbedFits();
        rubbedBytes();
        rubbedNumbers();
        squareColumns();
        squareFirst();
        squareNumbers();
        squareNone();
        squareUsed();
        Desk.end();
    }

    private static void sentence(String says) {
        Desk.sentence(says);
    }

    private static void due(String what, long want, long got) {
        Desk.due(what, want, got);
    }

    private static void due(String what, boolean want, boolean got) {
        Desk.due(what, want, got);
    }

    private static Desk letters(int words) {
        Desk desk = new Desk();
        for (int w = 0; w < words; w++) {
            desk.words("" + (char) ('a' + w));
        }
        return desk;
    }

    private static int[] upTo(int n) {
        int[] all = new int[n];
        for (int i = 0; i < n; i++) {
            all[i] = i;
        }
        return all;
    }

    // ---- 18

    private static void row(Desk desk, int cost, int[] words, int... told) {
        due("COST", cost, desk.row(-1, told));
        for (int i = 0; i < words.length; i++) {
            due("place " + i, words[i], desk.row(i, told));
        }
    }

    private static void rowLeastCost() {
        sentence("A ROW through told WORDS, each once, by STEPS between these: least COST");
        Desk desk = Desk.of("a b c xyz");
        desk.law("c5(a<b);c2(0=0)");
        row(desk, 4, new int[] {2, 1, 0}, 0, 1, 2);
        desk.law("n(a>b)");
        row(desk, 2, new int[] {0, 1, 2}, 2, 0, 1);
        desk.law("n(a>b);n(a=0&b=1)");
        due("there is none", -2, desk.row(-1, 2, 0, 1));
        row(desk, 1, new int[] {0, 2}, 0, 2);
        desk.law("c9(a=0|b=0)");
        row(desk, 10, new int[] {0, 1, 2}, 0, 1, 2);
        desk.law("c9(a=0&b=2);n(a>b&b=0)");
        row(desk, 2, new int[] {0, 1, 2}, 0, 1, 2);
        row(desk, 9, new int[] {0, 2}, 0, 2);
    }

    private static void rowOfLikeOnes() {
        sentence("A ROW: of like ones the least row of WORDS");
        Desk desk = letters(4);
        row(desk, 3, new int[] {0, 1, 2, 3}, 3, 2, 1, 0);
        row(desk, 3, new int[] {0, 1, 2, 3}, 2, 0, 3, 1);
        desk.law("n(a=0&b=1)");
        row(desk, 3, new int[] {0, 2, 1, 3}, 3, 2, 1, 0);
        desk.law("n(a=0&b<3)");
        row(desk, 3, new int[] {0, 3, 1, 2}, 3, 2, 1, 0);
        desk.law("n(a=0)");
        row(desk, 3, new int[] {1, 2, 3, 0}, 3, 2, 1, 0);
        desk.law("c2(a=0&b=1);c2(a=1&b=2)");
        row(desk, 3, new int[] {0, 2, 1, 3}, 0, 1, 2, 3);
        desk.law("c2(b=0)");
        row(desk, 3, new int[] {0, 1, 2, 3}, 0, 1, 2, 3);
        desk.law("c2(a=0)");
        row(desk, 3, new int[] {1, 2, 3, 0}, 0, 1, 2, 3);
    }

    private static void rowEachOnce() {
        sentence("A ROW through told WORDS, each once");
        Desk desk = letters(5);
        desk.law("n(!(a=1&b=0|a=0&b=2|a=2&b=3|a=3&(b=4|b=0)|a=0&b=4));c2(a=3&b=4)");
        row(desk, 5, new int[] {1, 0, 2, 3, 4}, 0, 1, 2, 3, 4);
        desk.law("n(!(a=4&b=2|a=2&b=0|a=0&b=3|a=3&(b=1|b=2)|a=2&b=1));c2(a=3&b=1)");
        row(desk, 5, new int[] {4, 2, 0, 3, 1}, 4, 3, 2, 1, 0);
        desk.law("n(!(a=2&b=1|a=1&(b=0|b=4)|a=0&b=3|a=3&(b=4|b=1)));c2(a=3&b=4)");
        row(desk, 5, new int[] {2, 1, 0, 3, 4}, 0, 1, 2, 3, 4);
    }

    /** From 1 no STEP leads to 0, though what is left from 0 on would cost as much as from 2 on. */
    private static void rowByStepsAlone() {
        sentence("A ROW: by STEPS between these (at each place of it)");
        Desk desk = letters(4);
        desk.law("n(!(a=1&b=2|a=2&b=0|a=0&b=3|a=3&b=2));c2(a=3&b=2)");
        row(desk, 3, new int[] {1, 2, 0, 3}, 0, 1, 2, 3);
        row(desk, 3, new int[] {1, 2, 0, 3}, 3, 2, 1, 0);
    }

    private static void rowNumbers() {
        sentence("18: the first n bytes of the tape (2 to 10; empty then); NONE: no such n (the tape stays)");
        Desk desk = letters(12);
        for (int n = 2; n <= 10; n++) {
            due("n = " + n, n - 1, desk.row(-1, upTo(n)));
            due("empty then", 0, desk.x.count(3));
            due("the last place of " + n, n - 1, desk.row(n - 1, upTo(n)));
        }
        desk.tape(Desk.list(upTo(12)));
        for (int n : new int[] {1, 0, -1, 11, 12, 20, MIN, MAX}) {
            due("n = " + n, -1, desk.x.row(n, -1));
            due("n = " + n + ", place 0", -1, desk.x.row(n, 0));
            due("the tape stays", 20, desk.x.count(3));
        }
        due("the first 10 of 20", 9, desk.x.row(10, -1));
    }

    private static void rowWhat() {
        sentence("18: what NONE its COST, else the WORD at place what; NONE: no such what (the tape stays)");
        Desk desk = letters(10);
        for (int n : new int[] {2, 3, 10}) {
            desk.tape(Desk.list(upTo(n)));
            for (int what : new int[] {n, n + 1, -2, MIN, MAX}) {
                due("what " + what + " of " + n, -1, desk.x.row(n, what));
                due("the tape stays", 20, desk.x.count(3));
            }
            due("what " + (n - 1) + " of " + n, n - 1, desk.x.row(n, n - 1));
        }
    }

    private static void rowTape() {
        sentence("18: NONE: it has not so many (the tape stays)");
        Desk desk = letters(3);
        for (int n = 2; n <= 10; n++) {
            due(n + " of an empty tape", -1, desk.x.row(n, -1));
            due("it stays", 0, desk.x.count(3));
        }
        due("fed behind nothing", 2, desk.row(-1, 0, 1, 2));
    }

    private static void rowNone() {
        sentence("18: -2: there is none");
        Desk desk = Desk.of("aa ab bb xyz");
        due("by STEPS between these alone", -2, desk.row(-1, 0, 2));
        due("what 1", -2, desk.row(1, 0, 2));
        due("the tape is empty then", 0, desk.x.count(3));
        due("with the one between", 2, desk.row(-1, 0, 2, 1));
        due("with one that has no STEPS", -2, desk.row(-1, 0, 1, 2, 3));
        desk.law("n(a=1)");
        due("the one between leads on no more", -2, desk.row(-1, 0, 1, 2));
    }

    private static void rowNotToldRight() {
        sentence("18: -3: no such WORDS, one twice, not USED");
        Desk desk = letters(5);
        int[][] wrong = {{0, 5}, {5, 0}, {0, 255}, {128, 0}, {0, 0}, {0, 1, 0}, {1, 2, 3, 4, 1}, {0, 1, 2, 40}};
        for (int[] told : wrong) {
            due("told " + Desk.list(told).length(), -3, desk.row(-1, told));
            due("the tape is empty then", 0, desk.x.count(3));
        }
        due("what stands behind the told ones is not asked", 1, desk.rowOf(2, -1, 0, 1, 255, 1));
        due("the last WORD", 1, desk.row(-1, 0, 4));
        desk.x.bar(4, true);
        due("a BARRED one", -3, desk.row(-1, 0, 4));
        due("ahead", -3, desk.row(-1, 4, 0));
        due("the tape is empty then", 0, desk.x.count(3));
        desk.x.bar(4, false);
        desk.x.speak(1);
        due("of another TONGUE", -3, desk.row(-1, 0, 4));
        desk.x.speak(0);
        due("of that TONGUE", 1, desk.row(-1, 0, 4));
        due("what was told ahead of that is not asked", 2, desk.row(-1, 0, 4, 1));
        desk.x.bar(4, true);
        desk.x.bar(1, true);
        due("these two alone", 1, desk.row(-1, 2, 3));
        desk.x.off();
        due("one that was taken off", -3, desk.row(-1, 0, 4));
    }

    /** Told are 2 to 10 of 12 WORDS, one of them wrong, at each place: no such one, one twice, not USED. */
    private static void rowNotToldRightAnywhere() {
        sentence("18: -3: no such WORDS, one twice, not USED (at whichever place)");
        wrongAnywhere(10, (desk, told) -> desk.row(-1, told));
    }

    private interface Telling {
        long of(Desk desk, int[] told);
    }

    private static void wrongAnywhere(int most, Telling telling) {
        Desk desk = null;
        for (int n = 2; n <= most; n++) {
            for (int place = 0; place < n; place++) {
                desk = place % 8 == 0 ? letters(12) : desk;
                int[] told = upTo(n);
                due(n + " that are right", true, telling.of(desk, told) != -3);
                for (int w : new int[] {12, 40, 64 + place, 128 + place, 192 + place, 255}) {
                    told[place] = w;
                    due("told " + w + " at " + place + " of " + n, -3, telling.of(desk, told));
                }
                for (int other = 0; other < n; other++) {
                    told[place] = other;
                    due("told " + other + " at " + place + " of " + n, other != place, telling.of(desk, told) == -3);
                }
            }
        }
    }

    /** One of the told ones is BARRED, or of another TONGUE than is SPOKEN. */
    private static void notUsedAnywhere(int most, Telling telling) {
        for (int n = 2; n <= most; n++) {
            for (int place = 0; place < n; place++) {
                Desk desk = letters(12);
                desk.word("m", 50, 2);
                int[] told = upTo(n);
                told[place] = 12;
                due("all are USED", true, telling.of(desk, told) != -3);
                desk.x.speak(0);
                due("of another TONGUE at " + place + " of " + n, -3, telling.of(desk, told));
                desk.x.speak(-1);
                desk.x.bar(12, true);
                due("BARRED at " + place + " of " + n, -3, telling.of(desk, told));
            }
        }
    }

    private static void rowOrder() {
        sentence("in row() -3 is told ahead of -2, NONE ahead of both");
        Desk desk = Desk.of("a b xyz");
        due("none", -2, desk.row(-1, 0, 2));
        desk.x.bar(1, true);
        due("none, and one that is not USED", -3, desk.row(-1, 0, 1, 2));
        due("none, and one twice", -3, desk.row(-1, 0, 2, 2));
        due("none, and no such one", -3, desk.row(0, 0, 2, 3));
        desk.tape(Desk.list(0, 0));
        due("no such what", -1, desk.x.row(2, 2));
        due("no such n", -1, desk.x.row(1, -1));
        due("the tape stays", 20, desk.x.count(3));
        due("one twice", -3, desk.x.row(2, 1));
    }

    // ---- 19

    private static void game(Desk desk, int by, int... told) {
        due("whether who begins wins", by >= 0 ? 1 : 0, desk.game(0, told));
        due("by which WORD first", by, desk.game(1, told));
    }

    private static void gameTurns() {
        sentence("A GAME: by turns one goes by a STEP to a told one that was not come to yet; who can't has lost");
        Desk desk = Desk.of("aaa aab abb bbb bbbb");
        game(desk, -2, 0, 2);
        game(desk, 1, 0, 1);
        game(desk, -2, 0, 1, 2);
        game(desk, 1, 0, 1, 2, 3);
        game(desk, -2, 0, 1, 2, 3, 4);
        sentence("A GAME: one stands on the first told one (it was come to)");
        game(desk, 0, 1, 0);
        game(desk, 0, 1, 0, 2, 3);
        game(desk, 1, 2, 1, 3, 4);
        game(desk, 1, 2, 4, 3, 1);
        game(desk, 3, 2, 0, 1, 3);
        desk.law("n(a=1&b=0)");
        game(desk, 1, 2, 0, 1, 3, 4);
        game(desk, -2, 1, 0);
        game(desk, 1, 0, 1);
        Desk three = letters(3);
        game(three, -2, 0, 1, 2);
        game(three, -2, 2, 1, 0);
        three.law("n(a=1&b=2)");
        game(three, 1, 0, 1, 2);
        game(three, -2, 1, 0, 2);
        three.law("n(b=1)");
        game(three, 2, 0, 1, 2);
        game(three, -2, 1, 0, 2);
    }

    private static void gameWhat() {
        sentence("19: what 0 whether who begins wins (1, 0), 1 by which WORD first (-2: loses); NONE: no such what (the tape stays)");
        Desk desk = letters(3);
        due("wins", 1, desk.game(0, 0, 1));
        due("by", 1, desk.game(1, 0, 1));
        due("loses", 0, desk.game(0, 0, 1, 2));
        due("by none", -2, desk.game(1, 0, 1, 2));
        desk.tape(Desk.list(1, 0, 2));
        for (int what : new int[] {-1, 2, MIN, MAX}) {
            due("what " + what, -1, desk.x.game(2, what));
            due("the tape stays", 20, desk.x.count(3));
        }
        due("it is read then", 0, desk.x.game(2, 1));
        due("empty then", 0, desk.x.count(3));
    }

    private static void gameLowest() {
        sentence("A GAME: by which WORD first (the lowest that wins)");
        Desk desk = letters(4);
        game(desk, 0, 3, 2, 1, 0);
        game(desk, 0, 3, 0, 2, 1);
        game(desk, 1, 0, 3, 2, 1);
        desk.law("n(a=3&b=0)");
        game(desk, 1, 3, 2, 1, 0);
        game(desk, 0, 2, 3, 1, 0);
        desk.law("n(a=3&b<2)");
        game(desk, 2, 3, 2, 1, 0);
    }

    private static void gameNumbers() {
        sentence("19: the first n bytes of the tape (2 to 12; empty then); NONE: no such n (the tape stays)");
        Desk desk = letters(14);
        for (int n = 2; n <= 12; n++) {
            due("n = " + n, n % 2 == 0 ? 1 : -2, desk.game(1, upTo(n)));
            due("empty then", 0, desk.x.count(3));
        }
        desk.tape(Desk.list(upTo(14)));
        for (int n : new int[] {1, 0, -1, 13, 14, 20, MIN, MAX}) {
            due("n = " + n, -1, desk.x.game(n, 0));
            due("the tape stays", 20, desk.x.count(3));
        }
        due("the first 12 of 20", 1, desk.x.game(12, 0));
    }

    private static void gameTape() {
        sentence("19: NONE: it has not so many (the tape stays)");
        Desk desk = letters(3);
        for (int n = 2; n <= 12; n++) {
            due(n + " of an empty tape", -1, desk.x.game(n, 0));
            due("it stays", 0, desk.x.count(3));
        }
        due("fed behind nothing", 1, desk.game(0, 0, 1));
    }

    /** Each WORD leads to the next one alone: from 0 all are gone by, from 1 all but one. */
    private static void gameByEachNumber() {
        sentence("A GAME on told WORDS (2 to 12), won and lost by each number of them");
        Desk desk = letters(12);
        desk.law("n(!b=a+1)");
        for (int n = 2; n <= 12; n++) {
            game(desk, n % 2 == 0 ? 1 : -2, upTo(n));
            int[] told = upTo(n);
            told[0] = 1;
            told[1] = 0;
            game(desk, n % 2 == 0 ? -2 : 2, told);
        }
    }

    private static void gameNotToldRightAnywhere() {
        sentence("19: -3: no such WORDS, one twice, not USED (at whichever place)");
        wrongAnywhere(12, (desk, told) -> desk.game(0, told));
        notUsedAnywhere(12, (desk, told) -> desk.game(0, told));
        sentence("18: -3: not USED (at whichever place)");
        notUsedAnywhere(10, (desk, told) -> desk.row(-1, told));
    }

    private static void gameNotToldRight() {
        sentence("19: -3: no such WORDS, one twice, not USED");
        Desk desk = letters(5);
        int[][] wrong = {{0, 5}, {5, 0}, {0, 255}, {128, 0}, {0, 0}, {0, 1, 0}, {1, 2, 3, 4, 1}, {0, 1, 2, 40}};
        for (int[] told : wrong) {
            for (int what = 0; what < 2; what++) {
                due("told " + told.length, -3, desk.game(what, told));
                due("the tape is empty then", 0, desk.x.count(3));
            }
        }
        due("the last WORD", 4, desk.game(1, 0, 4));
        desk.x.bar(4, true);
        due("a BARRED one", -3, desk.game(0, 0, 4));
        due("ahead", -3, desk.game(1, 4, 0));
        desk.x.bar(4, false);
        desk.x.speak(1);
        due("of another TONGUE", -3, desk.game(1, 0, 4));
        desk.tape(Desk.list(0, 0));
        due("NONE is told first", -1, desk.x.game(2, 2));
        due("the tape stays", 20, desk.x.count(3));
        due("one twice", -3, desk.x.game(2, 1));
    }

    // ---- 20

    private static void farBoth(String a, String b, int far) {
        Desk desk = Desk.of(a + " " + b);
        due(a + " to " + b, far, desk.x.farBy(0, 1));
        due(b + " to " + a, far, desk.x.farBy(1, 0));
        due("to itself", 0, desk.x.farBy(1, 1));
    }

    private static void farByChanges() {
        sentence("HOW FAR two rows of LETTERS are: the fewest CHANGES of KINDS 0 to 2 from one to the other one");
        farBoth("a", "b", 1);
        farBoth("a", "ab", 1);
        farBoth("ab", "ba", 2);
        farBoth("abcd", "badc", 3);
        farBoth("a", "abcdefgh", 7);
        farBoth("z", "abcdefgh", 8);
        farBoth("abcdefgh", "ijklmnop", 8);
        farBoth("abcdefgh", "bcdefgha", 2);
        farBoth("abcdefgh", "bcdefghi", 2);
        farBoth("kitten", "sitting", 3);
        farBoth("aaaa", "aaaaaaaa", 4);
        farBoth("xaxaxax", "axaxaxa", 2);
    }

    private static void farByWords() {
        sentence("20: HOW FAR two WORDS are; NONE: no such ones");
        Desk desk = Desk.of("abc xyz");
        for (int w : new int[] {-1, 2, 39, 40, MIN, MAX}) {
            due("from " + w, -1, desk.x.farBy(w, 0));
            due("to " + w, -1, desk.x.farBy(0, w));
        }
        desk.x.bar(0, true);
        desk.x.speak(3);
        due("WORDS that are not USED, too", 3, desk.x.farBy(0, 1));
        desk.law("n(0=0)");
        due("THE LAW is not asked", 3, desk.x.farBy(1, 0));
        desk.x.off();
        due("one that was taken off", -1, desk.x.farBy(0, 1));
    }

    // ---- 21

    private static void near(Desk desk, String text, int far, int word, int many) {
        due("how far is " + text, far, desk.near(text, 0));
        due("the lowest", word, desk.near(text, 1));
        due("how many", many, desk.near(text, 2));
    }

    private static void nearLeastFar() {
        sentence("NEAR a text: the WORDS (USED) that are least far: how far, the lowest, how many");
        Desk desk = Desk.of("abc abd xbz abcd");
        near(desk, "abc", 0, 0, 1);
        near(desk, "abz", 1, 0, 3);
        near(desk, "xyz", 1, 2, 1);
        near(desk, "q", 3, 0, 3);
        near(desk, "bcd", 1, 3, 1);
        desk.x.bar(0, true);
        near(desk, "abc", 1, 1, 2);
        desk.x.bar(1, true);
        near(desk, "abd", 1, 3, 1);
        desk.law("n(0=0)");
        near(desk, "xbz", 0, 2, 1);
        Desk full = Desk.chain(40);
        near(full, "mb", 0, 39, 1);
        near(full, "qqq", 2, 16, 2);
        near(full, "zzzz", 3, 25, 2);
    }

    private static void nearNumbers() {
        sentence("21: the first n bytes of the tape (1 to 12 LETTERS; empty then); what 0 to 2; NONE: no such ones (the tape stays)");
        Desk desk = Desk.of("abc");
        String text = "abcdefghijklm";
        for (int n = 1; n <= 12; n++) {
            due("n = " + n, n < 3 ? 3 - n : n - 3, desk.near(text.substring(0, n), 0));
            due("empty then", 0, desk.x.count(3));
        }
        desk.tape(text);
        for (int n : new int[] {0, -1, 13, 14, 20, MIN, MAX}) {
            due("n = " + n, -1, desk.x.near(n, 0));
            due("the tape stays", 20, desk.x.count(3));
        }
        for (int what : new int[] {-1, 3, MIN, MAX}) {
            due("what " + what, -1, desk.x.near(12, what));
            due("the tape stays", 20, desk.x.count(3));
        }
        due("the first 12 of 20", 9, desk.x.near(12, 0));
    }

    private static void nearTape() {
        sentence("21: NONE: it has not so many (the tape stays)");
        Desk desk = Desk.of("abc");
        for (int n = 1; n <= 12; n++) {
            due(n + " of an empty tape", -1, desk.x.near(n, 0));
            due("it stays", 0, desk.x.count(3));
        }
        due("fed behind nothing", 0, desk.near("abc", 0));
    }

    private static void nearNone() {
        sentence("21: -2: no USED WORD, a byte that is no LETTER");
        Desk desk = Desk.of("abc");
        for (int at = 0; at < 12; at++) {
            for (int b : new int[] {96, 97, 122, 123, 0, '?', 'A', 128 + 97, 255}) {
                StringBuilder text = new StringBuilder("qqqqqqqqqqqq");
                text.setCharAt(at, (char) b);
                boolean is = b == 97 || b == 122;
                due("byte " + b + " at " + at, is ? 1 : -2, desk.near(text.toString(), 2));
            }
        }
        due("the tape is empty then", 0, desk.x.count(3));
        for (int b = 0; b < 256; b++) {
            Desk one = b % 100 == 0 ? Desk.of("m") : desk;
            desk = one;
            boolean is = b >= 'a' && b <= 'z';
            due("byte " + b + " alone", is ? b == 'm' ? 0 : 1 : -2, desk.near(Desk.list(b), 0));
        }
        Desk none = new Desk();
        due("no WORD", -2, none.near("abc", 0));
        due("the tape is empty then", 0, none.x.count(3));
        none.words("abc");
        due("one", 0, none.near("abc", 0));
        none.x.bar(0, true);
        for (int what = 0; what < 3; what++) {
            due("none is USED, what " + what, -2, none.near("abc", what));
            due("the tape is empty then", 0, none.x.count(3));
        }
        none.tape("a?");
        due("NONE is told first: what", -1, none.x.near(2, 3));
        due("NONE is told first: n", -1, none.x.near(13, 0));
        due("the tape stays", 20, none.x.count(3));
        due("-2 then", -2, none.x.near(2, 0));
    }

    // ---- 22

    private static void clear(Desk desk, int d, int most, int... told) {
        due("how many, " + d + " far", Integer.bitCount(most), desk.clear(d, 0, told));
        due("which, " + d + " far", most, desk.clear(d, 1, told));
    }

    private static void clearFar() {
        sentence("CLEAR: of told WORDS the most of which any two are at least d (1 to 9) far");
        Desk desk = Desk.of("aaa aab abb bbb zzz");
        clear(desk, 1, 0b11111, 0, 1, 2, 3, 4);
        clear(desk, 2, 0b10101, 0, 1, 2, 3, 4);
        clear(desk, 3, 0b11001, 0, 1, 2, 3, 4);
        clear(desk, 4, 0b00001, 0, 1, 2, 3, 4);
        clear(desk, 2, 0b00011, 0, 2);
        clear(desk, 3, 0b00001, 0, 2);
        Desk far = Desk.of("aaaaaaaa bbbbbbbb cccccccc");
        clear(far, 8, 0b111, 0, 1, 2);
        clear(far, 9, 0b001, 0, 1, 2);
        clear(far, 9, 0b001, 2, 1);
    }

    private static void clearOfLikeOnes() {
        sentence("CLEAR: of like ones the least set (by their order); 22: bits by their order");
        Desk desk = Desk.of("aaa aab abb bbb zzz");
        clear(desk, 2, 0b10011, 1, 3, 2, 0, 4);
        clear(desk, 3, 0b011, 4, 0, 1);
        clear(desk, 3, 0b011, 4, 1, 0);
        clear(desk, 3, 0b101, 0, 1, 4);
        clear(desk, 4, 0b001, 4, 3, 2, 1, 0);
        Desk more = Desk.of("ab ac bb bc");
        clear(more, 2, 0b0110, 0, 1, 2, 3);
        clear(more, 2, 0b0011, 0, 3, 1, 2);
    }

    private static void clearNumbers() {
        sentence("22: the first n bytes of the tape (1 to 14; empty then), d (1 to 9), what 0, 1; NONE: no such ones (the tape stays)");
        Desk desk = letters(16);
        for (int n = 1; n <= 14; n++) {
            clear(desk, 1, (1 << n) - 1, upTo(n));
            due("empty then", 0, desk.x.count(3));
            clear(desk, 2, 1, upTo(n));
        }
        desk.tape(Desk.list(upTo(16)));
        for (int n : new int[] {0, -1, 15, 16, 20, MIN, MAX}) {
            due("n = " + n, -1, desk.x.clear(n, 1, 0));
            due("the tape stays", 20, desk.x.count(3));
        }
        for (int d : new int[] {0, -1, 10, 11, MIN, MAX}) {
            due("d = " + d, -1, desk.x.clear(14, d, 0));
            due("the tape stays", 20, desk.x.count(3));
        }
        for (int what : new int[] {-1, 2, MIN, MAX}) {
            due("what " + what, -1, desk.x.clear(14, 1, what));
            due("the tape stays", 20, desk.x.count(3));
        }
        due("the first 14 of 20", 14, desk.x.clear(14, 1, 0));
        due("d = 9", 1, desk.clear(9, 0, upTo(14)));
    }

    private static void clearTape() {
        sentence("22: NONE: it has not so many (the tape stays)");
        Desk desk = letters(3);
        for (int n = 1; n <= 14; n++) {
            due(n + " of an empty tape", -1, desk.x.clear(n, 1, 0));
            due("it stays", 0, desk.x.count(3));
        }
        due("fed behind nothing", 3, desk.clear(1, 0, 0, 1, 2));
    }

    private static void clearNotToldRight() {
        sentence("22: -3: no such WORDS, one twice");
        Desk desk = letters(5);
        int[][] wrong = {{5}, {0, 5}, {255}, {128, 0}, {0, 0}, {0, 1, 0}, {1, 2, 3, 4, 1}, {0, 1, 2, 40}};
        for (int[] told : wrong) {
            for (int what = 0; what < 2; what++) {
                due("told " + told.length, -3, desk.clear(1, what, told));
                due("the tape is empty then", 0, desk.x.count(3));
            }
        }
        due("the last WORD", 1, desk.clear(1, 0, 4));
        desk.tape(Desk.list(0, 0));
        due("NONE is told first: d", -1, desk.x.clear(2, 10, 0));
        due("NONE is told first: what", -1, desk.x.clear(2, 1, 2));
        due("the tape stays", 20, desk.x.count(3));
        due("-3 then", -3, desk.x.clear(2, 1, 0));
        desk.x.off();
        due("one that was taken off", -3, desk.clear(1, 0, 4));
    }

    private static void clearNotToldRightAnywhere() {
        sentence("22: -3: no such WORDS, one twice (at whichever place)");
        wrongAnywhere(12, (desk, told) -> desk.clear(1, 0, told));
    }

    private static void clearNotUsed() {
        sentence("CLEAR of told WORDS (that they are USED is not asked)");
        Desk desk = letters(3);
        desk.x.bar(0, true);
        clear(desk, 1, 0b111, 0, 1, 2);
        desk.x.speak(3);
        clear(desk, 1, 0b111, 2, 1, 0);
    }

    // ---- 23

    private static void rubbedFits() {
        sentence("RUBBED: WORDS (USED) that fit a row of LETTERS in which some are rubbed out (?: any LETTER), as bits");
        Desk desk = Desk.of("abc abd xbz ab");
        due("none rubbed out", 2, desk.rubbed("abd"));
        due("the last", 3, desk.rubbed("ab?"));
        due("the first", 1, desk.rubbed("?bc"));
        due("two", 7, desk.rubbed("?b?"));
        due("all", 7, desk.rubbed("???"));
        due("all of two", 8, desk.rubbed("??"));
        due("none of one", 0, desk.rubbed("?"));
        due("none of four", 0, desk.rubbed("????"));
        due("none fits", 0, desk.rubbed("ac?"));
        desk.x.bar(0, true);
        due("a BARRED one does not", 6, desk.rubbed("???"));
        desk.x.speak(1);
        due("nor one of another TONGUE", 0, desk.rubbed("???"));
        Desk full = Desk.chain(40);
        due("WORD 39", 1L << 39, full.rubbed("mb"));
        due("39 and 12", 1L << 39 | 1L << 12, full.rubbed("m?"));
        due("26 to 39", (1L << 40) - (1L << 26), full.rubbed("?b"));
        due("all 40", (1L << 40) - 1, full.rubbed("??"));
    }

    private static void rubbedBytes() {
        sentence("23: -2: a byte that is no LETTER and no ?");
        Desk desk = Desk.of("abcdefgh");
        for (int at = 0; at < 8; at++) {
            for (int b : new int[] {62, 63, 64, 96, 97, 122, 123, 0, 128 + 63, 128 + 97, 255}) {
                StringBuilder text = new StringBuilder("????????");
                text.setCharAt(at, (char) b);
                boolean is = b == 63 || b == 97 || b == 122;
                boolean fits = b == 63 || (b == 97 && at == 0);
                due("byte " + b + " at " + at, is ? fits ? 1 : 0 : -2, desk.rubbed(text.toString()));
                due("the tape is empty then", 0, desk.x.count(3));
            }
        }
        due("behind the first n it is not asked", 0, desk.rubbedOf("ab@", 2));
        for (int b = 0; b < 256; b++) {
            desk = b % 100 == 0 ? Desk.of("m") : desk;
            boolean is = b >= 'a' && b <= 'z' || b == '?';
            due("byte " + b + " alone", is ? b == 'm' || b == '?' ? 1 : 0 : -2, desk.rubbed(Desk.list(b)));
        }
        due("without any WORD", -2, new Desk().rubbed("@"));
        due("without any WORD none fits", 0, new Desk().rubbed("?"));
    }

    private static void rubbedNumbers() {
        sentence("23: the first n bytes of the tape (1 to 8; empty then); -1: no such n, it has not so many (the tape stays)");
        String row = "abcdefgh";
        Desk desk = new Desk();
        for (int n = 1; n <= 8; n++) {
            due(n + " of an empty tape", -1, desk.x.rubbed(n));
            due("it stays", 0, desk.x.count(3));
        }
        for (int n = 1; n <= 8; n++) {
            desk.words(row.substring(0, n));
            due("n = " + n, 1L << (n - 1), desk.rubbed("????????".substring(0, n)));
            due("empty then", 0, desk.x.count(3));
        }
        desk.tape("????????@");
        for (int n : new int[] {0, -1, 9, 10, 20, MIN, MAX}) {
            due("n = " + n, -1, desk.x.rubbed(n));
            due("the tape stays", 20, desk.x.count(3));
        }
        due("the first 8 of 20", 1L << 7, desk.x.rubbed(8));
    }

    // ---- 24

    private static void square(Desk desk, int n, int many, int... first) {
        due("how many of " + n, many, desk.x.square(n, -1));
        for (int row = 0; row < n; row++) {
            due("row " + row, many == 0 ? -2 : first[row], desk.x.square(n, row));
        }
    }

    private static void squareColumns() {
        sentence("A SQUARE of n (2 to 4): n WORDS of n LETTERS as rows so that each column, from above, is a WORD, too (one may stand more than once)");
        square(Desk.of("ab ba"), 2, 2, 0, 1);
        square(Desk.of("ab bc"), 2, 1, 0, 1);
        square(Desk.of("ab cb"), 2, 0);
        square(Desk.of("aa"), 2, 1, 0, 0);
        square(Desk.of("aaa"), 3, 1, 0, 0, 0);
        square(Desk.of("aaaa"), 4, 1, 0, 0, 0, 0);
        square(Desk.of("ab cd ac bd"), 2, 4, 0, 1);
        square(Desk.of("bit ice ten"), 3, 1, 0, 1, 2);
        square(Desk.of("ten ice bit"), 3, 1, 2, 1, 0);
        square(Desk.of("abcd bcde cdef defg"), 4, 1, 0, 1, 2, 3);
        square(Desk.of("abcd bcde cdef defh"), 4, 1, 0, 1, 2, 3);
        square(Desk.of("abcd bcde cdef eefg"), 4, 0);
        square(Desk.of("abc def ghi adg beh cfi"), 3, 2, 0, 1, 2);
        Desk mixed = Desk.of("a ab abc abcd ba");
        square(mixed, 2, 2, 1, 4);
        square(mixed, 3, 0);
        square(mixed, 4, 0);
    }

    private static void squareFirst() {
        sentence("A SQUARE: the first (by the row of WORDS)");
        square(Desk.of("ba ab"), 2, 2, 0, 1);
        square(Desk.of("ab ba aa"), 2, 7, 0, 1);
        square(Desk.of("aa ab ba"), 2, 7, 0, 0);
        square(Desk.of("adg abc def beh ghi cfi"), 3, 2, 0, 3, 5);
        square(Desk.of("ab aa"), 2, 2, 1, 0);
        square(Desk.of("cb aa"), 2, 1, 1, 1);
        square(Desk.of("bb ab ba aa"), 2, 16, 0, 0);
    }

    private static void squareNumbers() {
        sentence("24: n (2 to 4), what NONE how many, else the WORD in row what of the first; NONE also: no such ones");
        Desk desk = Desk.of("a aa aaa aaaa aaaaa");
        for (int n : new int[] {1, 0, -1, 5, 6, 8, MIN, MAX}) {
            due("n = " + n, -1, desk.x.square(n, -1));
            due("n = " + n + ", row 0", -1, desk.x.square(n, 0));
        }
        for (int n = 2; n <= 4; n++) {
            square(desk, n, 1, n - 1, n - 1, n - 1, n - 1);
            for (int what : new int[] {n, n + 1, -2, MIN, MAX}) {
                due("what " + what + " of " + n, -1, desk.x.square(n, what));
            }
        }
    }

    private static void squareNone() {
        sentence("24: -2: there is none");
        Desk desk = new Desk();
        for (int n = 2; n <= 4; n++) {
            square(desk, n, 0);
            due("NONE is told first", -1, desk.x.square(n, n));
            due("NONE is told first", -1, desk.x.square(n, -2));
        }
        desk.words("ab cb");
        square(desk, 2, 0);
        desk.words("aa");
        square(desk, 2, 2, 2, 0);
    }

    private static void squareUsed() {
        sentence("A SQUARE: n USED WORDS as rows, each column a USED WORD, too");
        Desk desk = Desk.of("ab cd ac bd");
        square(desk, 2, 4, 0, 1);
        desk.x.bar(2, true);
        square(desk, 2, 1, 0, 3);
        desk.x.bar(2, false);
        square(desk, 2, 4, 0, 1);
        desk.x.speak(2);
        square(desk, 2, 0);
        desk.x.speak(-1);
        desk.law("n(0=0)");
        square(desk, 2, 4, 0, 1);
        desk.x.off();
        square(desk, 2, 1, 2, 1);
        desk.words("xy");
        square(desk, 2, 1, 2, 1);
        desk.x.off();
        desk.words("bd");
        square(desk, 2, 4, 0, 1);
        square(desk, 3, 0);
        square(desk, 2, 4, 0, 1);
    }
}
