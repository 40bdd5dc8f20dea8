/**
 * CHANGES, STEPS and what follows from them (promises 8 to 17 and 26): each sentence that names a bound or
 * tells what comes first of like ones, with answers on both sides.
 */
public final class WaysBoundsTest {
    private static final int MIN = Integer.MIN_VALUE;
    private static final int MAX = Integer.MAX_VALUE;

    private WaysBoundsTest() {
    }

    public static void main(String[] args) {
        changeAnother();
        changePutIn();
        changeLeftOut();
        changeAbout();
        noChange();
        stepOfUsedOnes();
        stepOfLeastCost();
        stepOfFirstPlace();
        stepWhat();
        stepNoneFirst();
        leastCost();
        leastFewestSteps();
        leastRow();
        leastRowFromTheFront();
        leastWhat();
        leastLongest();
        leastNoWay();
        leastPlaceBehind();
        leastToItself();
        howManyRows();
        howManyByTheFirst();
        howManyOfManySteps();
        howManyNone();
        withoutWords();
        withoutDeadEnds();
        withoutNone();
        withoutBits();
        heapBothWays();
        heapNone();
        heapsCounted();
        farMost();
        farOfLikeOnes();
        farByCostAlone();
        farNone();
        betweenTwos();
        betweenOfLikeOnes();
        betweenByTwos();
        betweenAnew();
        betweenNone();
        newWordHeaps();
        newWordByEachKind();
        newWordAnew();
        newWordOfFewer();
        newWordOfForty();
        newWordOfLikeOnes();
        newWordRanks();
        newWordLengths();
        newWordIsNoWord();
        newWordWhat();
        newWordPlaceBehind();
        walksInSteps();
        walksByOneStep();
        walksNone();
        walksMany();
        drawnX();
        drawnTo();
        drawnStays();
        drawnWordsOneWasAt();
        drawNone();
        drawNotUsed();
        Desk.end();
    }

    private static void sentence(String says) {
        Desk.sentence(says);
    }

    private static void due(String what, long want, long got) {
        Desk.due(what, want, got);
    }

    // ---- CHANGES and STEPS

    /** KIND and place of the STEP from one row to the other; KIND -2: there is none. */
    private static void step(String from, String to, int kind, int place) {
        Desk desk = Desk.of(from + " " + to);
        due("KIND of " + from + " to " + to, kind, desk.x.step(0, 1, 1));
        due("place", place, desk.x.step(0, 1, 2));
        due("COST", kind < 0 ? -2 : 1, desk.x.step(0, 1, 0));
    }

    private static void noStep(String from, String to) {
        step(from, to, -2, -2);
        step(to, from, -2, -2);
    }

    private static void changeAnother() {
        sentence("KIND 0: the LETTER at a place is another one");
        String row = "mmmmmmmm";
        for (int i = 0; i < 8; i++) {
            step(row, row.substring(0, i) + "a" + row.substring(i + 1), 0, i);
            step(row.substring(0, i) + "z" + row.substring(i + 1), row, 0, i);
        }
        step("a", "b", 0, 0);
        step("a", "z", 0, 0);
        noStep("ab", "cd");
        noStep("mmmmmmmm", "ammmmmma");
    }

    private static void changePutIn() {
        sentence("KIND 1: one is put in at a place (it stands there then; 0 to the length)");
        String row = "mmmmmmm";
        for (int i = 0; i <= 7; i++) {
            step(row, row.substring(0, i) + "a" + row.substring(i), 1, i);
        }
        step("a", "ba", 1, 0);
        step("a", "ab", 1, 1);
        step("abc", "abcc", 1, 2);
        step("abc", "aabc", 1, 0);
        noStep("a", "abc");
        noStep("ab", "cda");
    }

    private static void changeLeftOut() {
        sentence("KIND 2: that at a place is left out");
        String row = "mmmmmmm";
        for (int i = 0; i <= 7; i++) {
            step(row.substring(0, i) + "a" + row.substring(i), row, 2, i);
        }
        step("ba", "a", 2, 0);
        step("ab", "a", 2, 1);
        step("abcc", "abc", 2, 2);
        step("aabc", "abc", 2, 0);
        noStep("abc", "c");
        noStep("abcd", "bca");
    }

    private static void changeAbout() {
        sentence("KIND 3: that at a place and the next one, unlike, are changed about");
        String row = "abcdefgh";
        for (int i = 0; i < 7; i++) {
            step(row, row.substring(0, i) + row.charAt(i + 1) + row.charAt(i) + row.substring(i + 2), 3, i);
        }
        step("ab", "ba", 3, 0);
        step("aab", "aba", 3, 1);
        noStep("abc", "cba");
        noStep("abcd", "badc");
        noStep("abcd", "bcda");
        noStep("ab", "bc");
    }

    private static void noChange() {
        sentence("A STEP: by a CHANGE that makes the one of the other (one alone)");
        noStep("abcd", "abdcx");
        noStep("abcd", "dabc");
        noStep("abc", "bcd");
        noStep("aaaa", "bbaa");
        noStep("abab", "baba");
        noStep("abcdefgh", "a");
    }

    private static void stepOfUsedOnes() {
        sentence("A STEP from a USED WORD to another one");
        Desk desk = new Desk();
        desk.word("aa", 1, 1);
        desk.word("ab", 1, 3);
        for (int tongue = -1; tongue < 3; tongue++) {
            desk.x.speak(tongue);
            boolean both = tongue < 1;
            due("from the first", both ? 1 : -2, desk.x.step(0, 1, 0));
            due("to the first", both ? 1 : -2, desk.x.step(1, 0, 0));
        }
        desk.x.speak(-1);
        due("to itself there is none", -2, desk.x.step(0, 0, 0));
        desk.x.bar(0, true);
        due("from a BARRED one", -2, desk.x.step(0, 1, 0));
        due("to a BARRED one", -2, desk.x.step(1, 0, 0));
        desk.x.bar(0, false);
        due("no more BARRED", 1, desk.x.step(1, 0, 0));
        desk.law("n(a=0)");
        due("what may not be", -2, desk.x.step(0, 1, 0));
        due("the other way it may", 1, desk.x.step(1, 0, 0));
    }

    private static void stepOfLeastCost() {
        sentence("A STEP: if there are more, that of least COST");
        String[] laws = {"c9-i(0=0)", "c5(i=1);c6(0=0)", "c6(i=1);c5(0=0)", "n(i<3)", "n(i=0)", "c9(i=0);c8(i=1);c8(i=2);c9(0=0)"};
        int[][] dues = {{6, 3}, {5, 1}, {5, 0}, {1, 3}, {1, 1}, {8, 1}};
        for (int i = 0; i < laws.length; i++) {
            for (String to : new String[] {"aaaa", "aa"}) {
                Desk desk = Desk.of("aaa " + to);
                desk.law(laws[i]);
                boolean toLast = laws[i].equals("n(i<3)") && to.equals("aa");
                int place = Math.min(dues[i][1], to.equals("aa") ? 2 : 3);
                int cost = laws[i].equals("c9-i(0=0)") ? 9 - place : dues[i][0];
                due("COST to " + to + " by " + laws[i], toLast ? -2 : cost, desk.x.step(0, 1, 0));
                due("place", toLast ? -2 : place, desk.x.step(0, 1, 2));
            }
        }
    }

    private static void stepOfFirstPlace() {
        sentence("A STEP: of like ones of least KIND, then place");
        step("aaaaaaa", "aaaaaaaa", 1, 0);
        step("aaaaaaaa", "aaaaaaa", 2, 0);
        step("xaaay", "xaaaay", 1, 1);
        step("xaaay", "xaay", 2, 1);
        Desk desk = Desk.of("xaaay xaaaay");
        desk.law("n(i=1)");
        due("the next place that may be", 2, desk.x.step(0, 1, 2));
        due("and when one is left out", 2, desk.x.step(1, 0, 2));
        desk.law("n(i<4)");
        due("the last place", 4, desk.x.step(0, 1, 2));
        due("the last one to leave out", 4, desk.x.step(1, 0, 2));
        desk.law("n(i<5)");
        due("no place is left", -2, desk.x.step(0, 1, 2));
        due("for none", -2, desk.x.step(1, 0, 2));
    }

    private static void stepWhat() {
        sentence("8: what 0 its COST, 1 its KIND, 2 its place; NONE: no such ones");
        Desk desk = Desk.of("abcd abdc");
        desk.law("c7(0=0)");
        int[] dues = {-1, 7, 3, 2, -1};
        for (int what = -1; what <= 3; what++) {
            due("what " + what, dues[what + 1], desk.x.step(0, 1, what));
        }
        due("what MIN", -1, desk.x.step(0, 1, MIN));
        due("what MAX", -1, desk.x.step(0, 1, MAX));
        for (int w : new int[] {-1, 2, 40, MIN, MAX}) {
            due("from " + w, -1, desk.x.step(w, 1, 0));
            due("to " + w, -1, desk.x.step(0, w, 0));
        }
    }

    private static void stepNoneFirst() {
        sentence("NONE is told ahead of -2 (8)");
        Desk desk = Desk.of("ab cd");
        due("there is none", -2, desk.x.step(0, 1, 0));
        due("there is none, its place", -2, desk.x.step(0, 1, 2));
        due("no such what", -1, desk.x.step(0, 1, 3));
        due("to itself, no such what", -1, desk.x.step(0, 0, -1));
        due("to itself", -2, desk.x.step(0, 0, 2));
    }

    // ---- LEAST, HOW MANY, WITHOUT

    private static void leastCost() {
        sentence("LEAST: the least COST of all rows of STEPS (USED ones alone)");
        Desk desk = Desk.of("a b c d");
        desk.law("c9(a=0&b=3);c2(a=0);c2(b=3);c3(0=0)");
        due("by one", 4, desk.x.least(0, 3, -1));
        desk.law("c4(a=0&b=3);c2(a=0);c2(b=3)");
        due("straight on is as little", 4, desk.x.least(0, 3, -1));
        desk.law("c3(a=0&b=3);c2(a=0);c2(b=3)");
        due("straight on is less", 3, desk.x.least(0, 3, -1));
        desk.law("n(a=0&b>1);n(a=1&b=3);n(a=3);n(a=2&b=0)");
        due("the only way", 3, desk.x.least(0, 3, -1));
        desk.x.bar(2, true);
        due("not by a BARRED one", -2, desk.x.least(0, 3, -1));
        desk.x.bar(2, false);
        due("by it again", 3, desk.x.least(0, 3, -1));
    }

    private static void leastFewestSteps() {
        sentence("LEAST: of fewest STEPS");
        Desk desk = Desk.of("a b c d");
        desk.law("c3(a=0&b=3);n(a=0&b=2);n(a=1&b=3)");
        due("COST", 3, desk.x.least(0, 3, -1));
        due("one STEP", 1, desk.x.least(0, 3, 40));
        Desk.due("the row", "0 3", desk.way(0, 3));
        desk.law("c4(a=0&b=3);n(a=0&b=2);n(a=1&b=3)");
        due("COST", 3, desk.x.least(0, 3, -1));
        due("three STEPS", 3, desk.x.least(0, 3, 40));
        Desk.due("the row", "0 1 2 3", desk.way(0, 3));
    }

    private static void leastRow() {
        sentence("LEAST: of like ones the least row of WORDS");
        Desk desk = Desk.of("aa ba ab bb");
        Desk.due("by 1, not by 2", "0 1 3", desk.way(0, 3));
        Desk.due("and back", "3 1 0", desk.way(3, 0));
        Desk.due("from 1 by 0, not by 2 (changed about) at all", "1 2", desk.way(1, 2));
        desk.law("n(k=3)");
        Desk.due("from 1 to 2", "1 0 2", desk.way(1, 2));
        Desk.due("from 2 to 1", "2 0 1", desk.way(2, 1));
        desk.x.bar(0, true);
        Desk.due("from 2 to 1 by the one that is left", "2 3 1", desk.way(2, 1));
        Desk three = Desk.of("bbb abb aab bab baa aaa");
        three.law("n(k=3)");
        Desk.due("the first WORD in which they are unlike counts", "0 1 2 5", three.way(0, 5));
        three.law("n(k=3);n(a=1&b=2)");
        Desk.due("else by 3", "0 3 2 5", three.way(0, 5));
    }

    private static void leastRowFromTheFront() {
        sentence("LEAST: the least row of WORDS (the first WORD counts first, not the last)");
        Desk desk = Desk.of("a b c d e f");
        desk.law("n(!(a=0&(b=1|b=2)|a=1&b=4|a=2&b=3|(a=3|a=4)&b=5))");
        Desk.due("by 1 and 4, not by 2 and 3", "0 1 4 5", desk.way(0, 5));
        due("there are two", 2, desk.x.howMany(0, 5));
        desk.law("n(!(a=5&(b=1|b=2)|a=1&b=4|a=2&b=3|(a=3|a=4)&b=0))");
        Desk.due("by 1 and 4, from the last WORD to the first", "5 1 4 0", desk.way(5, 0));
    }

    private static void leastWhat() {
        sentence("9: what NONE its COST, 40 how many STEPS, else the WORD at place what of the row (0: a)");
        Desk desk = Desk.chain(5);
        desk.law("n(!b=a+1);c7(0=0)");
        int[] dues = {28, 0, 1, 2, 3, 4};
        for (int what = -1; what < 5; what++) {
            due("what " + what, dues[what + 1], desk.x.least(0, 4, what));
        }
        due("40", 4, desk.x.least(0, 4, 40));
        sentence("9: NONE: no such place");
        for (int what : new int[] {5, 6, 38, 39, 41, 42, -2, -3, MIN, MAX}) {
            due("what " + what, -1, desk.x.least(0, 4, what));
        }
        due("the row of one STEP", 3, desk.x.least(2, 3, 1));
        due("behind it", -1, desk.x.least(2, 3, 2));
    }

    private static void leastLongest() {
        sentence("WORDS 0 to 39: the longest row of STEPS, at the highest COST");
        Desk desk = Desk.chain(40);
        desk.law("n(!b=a+1);c99(0=0)");
        due("COST", 39 * 99, desk.x.least(0, 39, -1));
        due("STEPS", 39, desk.x.least(0, 39, 40));
        for (int what = 0; what < 40; what++) {
            due("place " + what, what, desk.x.least(0, 39, what));
        }
        due("place 39 of one STEP less", -1, desk.x.least(0, 38, 39));
        due("place 38 of it", 38, desk.x.least(0, 38, 38));
        due("back there is no way", -2, desk.x.least(39, 0, -1));
        due("one row", 1, desk.x.howMany(0, 39));
        due("without", (1L << 39) - 2, desk.x.without(0, 39));
        due("HEAPS", 40, desk.x.heaps());
        due("far", 39 * 99, desk.x.far(0));
        due("from", 0, desk.x.far(1));
        due("to", 39, desk.x.far(2));
        due("by which most go, the lowest of two", 19, desk.x.between(0));
        due("of how many twos", 19 * 20, desk.x.between(1));
        due("ten STEPS on", 1, desk.x.walks(29, 39, 10));
        due("eleven STEPS on", 0, desk.x.walks(28, 39, 10));
    }

    private static void leastNoWay() {
        sentence("9: -2: there is no way, one is not USED");
        Desk desk = Desk.of("a b xyz");
        for (int what : new int[] {-1, 0, 1, 40}) {
            due("no way, what " + what, -2, desk.x.least(0, 2, what));
        }
        due("a way", 1, desk.x.least(0, 1, -1));
        desk.x.bar(0, true);
        for (int what : new int[] {-1, 0, 1, 40}) {
            due("from one that is not USED, what " + what, -2, desk.x.least(0, 1, what));
            due("to one that is not USED, what " + what, -2, desk.x.least(1, 0, what));
            due("both the same one, what " + what, -2, desk.x.least(0, 0, what));
        }
        due("a USED one to itself", 0, desk.x.least(1, 1, -1));
    }

    private static void leastPlaceBehind() {
        sentence("in least() NONE of a place that is not there is told behind -2");
        Desk desk = Desk.of("a b xyz");
        for (int what : new int[] {0, 1, 2, 38, 39}) {
            due("no way, place " + what, -2, desk.x.least(0, 2, what));
        }
        due("a way, place 2", -1, desk.x.least(0, 1, 2));
        due("no such WORD, ahead of -2", -1, desk.x.least(3, 2, 0));
        due("no such WORD, ahead of -2", -1, desk.x.least(0, 3, 39));
        desk.x.bar(0, true);
        due("not USED, place 5", -2, desk.x.least(0, 1, 5));
        due("not USED, place 5 of itself", -2, desk.x.least(0, 0, 5));
        due("no such WORD and one that is not USED", -1, desk.x.least(0, -1, 0));
    }

    private static void leastToItself() {
        sentence("LEAST: to itself 0");
        Desk desk = Desk.of("a b");
        desk.law("c9(0=0)");
        due("COST", 0, desk.x.least(1, 1, -1));
        due("STEPS", 0, desk.x.least(1, 1, 40));
        due("place 0", 1, desk.x.least(1, 1, 0));
        due("place 1", -1, desk.x.least(1, 1, 1));
        desk.law("n(0=0)");
        due("without any STEP", 0, desk.x.least(1, 1, -1));
    }

    private static void howManyRows() {
        sentence("HOW MANY rows of WORDS have that COST (however many STEPS; 1 to itself)");
        Desk desk = Desk.of("aa ba ab bb");
        due("two rows", 2, desk.x.howMany(0, 3));
        due("a row as numbers of WORDS: one by any of its CHANGES", 1, Desk.of("aaa aa").x.howMany(0, 1));
        due("to itself", 1, desk.x.howMany(2, 2));
        desk.law("c2(b=1)");
        due("the dear one does not count", 1, desk.x.howMany(0, 3));
        desk.law("c2(a=1);c2(b=2)");
        due("dear in another place", 2, desk.x.howMany(0, 3));
        Desk three = Desk.of("a b c");
        three.law("c2(a=0&b=2)");
        due("of one STEP and of two", 2, three.x.howMany(0, 2));
        three.law("c3(a=0&b=2)");
        due("of two alone", 1, three.x.howMany(0, 2));
        three.law("n(0=1)");
        due("of one alone", 1, three.x.howMany(0, 2));
    }

    private static void howManyByTheFirst() {
        sentence("HOW MANY rows of WORDS (by WORD 0, too)");
        Desk desk = Desk.of("ba aa bb ab");
        for (int turn = 0; turn < 3; turn++) {
            due("by 0 and by 3", 2, desk.x.howMany(1, 2));
            due("and back", 2, desk.x.howMany(2, 1));
            due("from it", 1, desk.x.howMany(0, 1));
        }
        due("without none of them", 0, desk.x.without(1, 2));
        desk.x.bar(3, true);
        due("by 0 alone", 1, desk.x.howMany(1, 2));
        due("without 0", 1, desk.x.without(1, 2));
        desk.x.bar(3, false);
        due("by both again", 2, desk.x.howMany(1, 2));
        desk.law("c2(b=0)");
        due("by 3 alone", 1, desk.x.howMany(1, 2));
    }

    /** Each row of WORDS that goes up costs what the numbers are apart, so all such rows count. */
    private static void howManyOfManySteps() {
        sentence("long howMany: more rows than an int holds");
        Desk desk = Desk.chain(40);
        desk.law("cb-a(b>a);n(a>b)");
        long[] rows = new long[40];
        rows[0] = 1;
        for (int to = 1; to < 40; to++) {
            for (int from = 0; from < to; from++) {
                String a = Desk.chainRow(from);
                String b = Desk.chainRow(to);
                boolean beside = a.charAt(0) == b.charAt(0) || a.charAt(1) == b.charAt(1);
                rows[to] += beside ? rows[from] : 0;
            }
        }
        due("it is more", 1, rows[39] > Integer.MAX_VALUE ? 1 : 0);
        due("from 0 to 39", rows[39], desk.x.howMany(0, 39));
        due("from 0 to 25", 1L << 24, desk.x.howMany(0, 25));
        due("COST", 39, desk.x.least(0, 39, -1));
        due("STEPS", 2, desk.x.least(0, 39, 40));
    }

    private static void howManyNone() {
        sentence("10: 0: none; -1: no such ones");
        Desk desk = Desk.of("a b xyz");
        due("no way", 0, desk.x.howMany(0, 2));
        desk.x.bar(0, true);
        due("from one that is not USED", 0, desk.x.howMany(0, 1));
        due("to one that is not USED", 0, desk.x.howMany(1, 0));
        due("both", 0, desk.x.howMany(0, 0));
        for (int w : new int[] {-1, 3, 40, MIN, MAX}) {
            due("from " + w, -1, desk.x.howMany(w, 0));
            due("to " + w, -1, desk.x.howMany(0, w));
        }
    }

    private static void withoutWords() {
        sentence("WITHOUT: WORDS (not the two) that each row of STEPS from one to the other one has");
        Desk desk = Desk.of("aaa aab abb bbb");
        due("both between", 6, desk.x.without(0, 3));
        due("and back", 6, desk.x.without(3, 0));
        due("one between", 2, desk.x.without(0, 2));
        due("none between", 0, desk.x.without(0, 1));
        desk.words("aba");
        due("around the one", 4, desk.x.without(0, 3));
        desk.law("c99(b=4)");
        due("a dear row is a row, too", 4, desk.x.without(0, 3));
        desk.law("n(b=4)");
        due("what may not be is none", 6, desk.x.without(0, 3));
        due("that is so one way alone", 4, desk.x.without(4, 3));
        desk.x.bar(4, true);
        due("a BARRED one leads around nothing", 6, desk.x.without(0, 3));
        due("to itself", 0, desk.x.without(2, 2));
        due("to itself, and there are no STEPS", 0, Desk.of("q xyz").x.without(0, 0));
        due("the second", 0, Desk.of("q xyz").x.without(1, 1));
    }

    private static void withoutDeadEnds() {
        sentence("WITHOUT: each row of STEPS (those that lead nowhere are none)");
        Desk desk = Desk.of("a b c d e f");
        desk.law("n(!(a=0&(b=1|b=2|b=3)|a=1&b=4|a=2&b=4))");
        due("by 1 or by 2, 3 leads nowhere", 0, desk.x.without(0, 4));
        desk.law("n(!(a=0&(b=1|b=2|b=3)|a=1&b=4|a=3&b=4))");
        due("by 1 or by 3", 0, desk.x.without(0, 4));
        desk.law("n(!(a=0&(b=1|b=2|b=3)|a=1&b=5|a=2&b=5|a=5&b=4))");
        due("by 1 or by 2, then 5", 1L << 5, desk.x.without(0, 4));
        desk.law("n(!(a=0&(b=1|b=2|b=3)|a=2&b=5|a=5&b=4|a=4&b=1))");
        due("by 2 and 5", 1L << 2 | 1L << 5, desk.x.without(0, 4));
        due("straight on there is a way", 0, desk.x.without(0, 1));
    }

    private static void withoutNone() {
        sentence("11: -2: there is no way; -1: no such ones");
        Desk desk = Desk.of("a b xyz");
        due("no way", -2, desk.x.without(0, 2));
        due("a way", 0, desk.x.without(0, 1));
        desk.x.bar(0, true);
        due("from one that is not USED", -2, desk.x.without(0, 1));
        due("to one that is not USED", -2, desk.x.without(1, 0));
        due("both", -2, desk.x.without(0, 0));
        for (int w : new int[] {-1, 3, 40, MIN, MAX}) {
            due("from " + w + ", ahead of -2", -1, desk.x.without(w, 0));
            due("to " + w + ", ahead of -2", -1, desk.x.without(0, w));
        }
    }

    private static void withoutBits() {
        sentence("11: as bits (0 to 39)");
        Desk desk = Desk.chain(40);
        desk.law("n(!b=a-1)");
        due("1 to 38", (1L << 39) - 2, desk.x.without(39, 0));
        due("38 alone", 1L << 38, desk.x.without(39, 37));
        due("none", 0, desk.x.without(39, 38));
        Desk high = Desk.chain(40);
        high.law("n(!a=0&!b=1);n(!a=39&!b=39)");
        due("none goes by it", -2, high.x.without(0, 2));
        high.law("n(!(a=27&b=26|a=26&b=39|a=39&b=28))");
        due("26 and 39", 1L << 26 | 1L << 39, high.x.without(27, 28));
    }

    // ---- HEAPS

    private static void heapBothWays() {
        sentence("A HEAP: USED WORDS that can be come to from one another, both ways; 12: the lowest WORD of it");
        Desk desk = Desk.of("xyz a b c");
        int[] lowest = {0, 1, 1, 1};
        for (int w = 0; w < 4; w++) {
            due("heap " + w, lowest[w], desk.x.heap(w));
        }
        desk.law("n(a=3&b=1);n(a=2&b=1);n(a=3&b=2)");
        due("to 3 there is a way, back there is none", 3, desk.x.heap(3));
        due("2, too", 2, desk.x.heap(2));
        due("1", 1, desk.x.heap(1));
        desk.law("n(a=1&b=2);n(a=2&b=3);n(a=3&b=1)");
        for (int w = 1; w < 4; w++) {
            due("around, by one another: " + w, 1, desk.x.heap(w));
        }
        desk.law("n(!(a=1&b=2|a=2&b=3|a=3&b=1))");
        due("one way around alone", 1, desk.x.heap(3));
        desk.x.bar(1, true);
        due("cut", 2, desk.x.heap(2));
        due("cut", 3, desk.x.heap(3));
        desk.law("n(0=1)");
        due("the lowest USED one", 2, desk.x.heap(3));
    }

    private static void heapNone() {
        sentence("12: -2: it is not USED; NONE: no such one");
        Desk desk = Desk.of("a b");
        for (int w : new int[] {-1, 2, 39, 40, MIN, MAX}) {
            due("heap " + w, -1, desk.x.heap(w));
        }
        desk.x.bar(1, true);
        due("not USED", -2, desk.x.heap(1));
        due("USED", 0, desk.x.heap(0));
        desk.x.speak(1);
        due("of another TONGUE", -2, desk.x.heap(0));
        desk.x.off();
        due("one that was taken off", -1, desk.x.heap(1));
    }

    private static void heapsCounted() {
        sentence("13: How many HEAPS there are");
        Desk desk = new Desk();
        due("none", 0, desk.x.heaps());
        String[] rows = {"a", "xyz", "b", "pqrst"};
        int[] heaps = {1, 2, 2, 3};
        for (int i = 0; i < 4; i++) {
            desk.words(rows[i]);
            due("of " + (i + 1), heaps[i], desk.x.heaps());
        }
        desk.x.bar(1, true);
        due("a BARRED one is in none", 2, desk.x.heaps());
        desk.law("n(a=0)");
        due("one way is not both", 3, desk.x.heaps());
        desk.x.speak(3);
        due("no USED WORD", 0, desk.x.heaps());
        Desk full = Desk.chain(40);
        due("one of 40 WORDS", 1, full.x.heaps());
        full.law("n(0=0)");
        due("40", 40, full.x.heaps());
    }

    // ---- far, between

    private static void far(Desk desk, int least, int from, int to) {
        due("LEAST", least, desk.x.far(0));
        due("from", from, desk.x.far(1));
        due("to", to, desk.x.far(2));
    }

    private static void farMost() {
        sentence("THE FAR TWO: of all twos (from, to) between which there is a way, those of which LEAST is most");
        Desk desk = Desk.of("aaa aab abb bbb");
        far(desk, 3, 0, 3);
        desk.law("c5(a=3&b=2)");
        far(desk, 7, 3, 0);
        desk.law("c9(a=2&b=1);c9(a=3&b=2);n(a=1&b=0)");
        far(desk, 18, 3, 1);
        desk.x.bar(1, true);
        far(desk, 9, 3, 2);
        Desk one = Desk.of("a b");
        one.law("n(a=0)");
        far(one, 1, 1, 0);
    }

    private static void farOfLikeOnes() {
        sentence("THE FAR TWO: of like ones the least first, then second");
        far(Desk.of("a b c"), 1, 0, 1);
        Desk desk = Desk.of("a b c");
        desk.law("n(a=0&b=1);c2(a=0)");
        far(desk, 3, 0, 1);
        desk.law("c2(a=1);c2(a=2)");
        far(desk, 2, 1, 0);
        desk.law("c2(a=1&b=2);c2(a=2)");
        far(desk, 2, 1, 2);
        desk.law("c2(a=2)");
        far(desk, 2, 2, 0);
        desk.x.bar(0, true);
        far(desk, 2, 2, 1);
    }

    private static void farByCostAlone() {
        sentence("THE FAR TWO: LEAST is most (how many STEPS there are does not count)");
        Desk desk = Desk.of("a b c");
        desk.law("n(a=1&b=0);c1(a=1|a=2&b=0);c2(0=0)");
        far(desk, 2, 0, 1);
        due("in one STEP", 1, desk.x.least(0, 1, 40));
        due("as much, in two", 2, desk.x.least(1, 0, 40));
        desk.law("n(a=0&b=1);c1(a=0|a=2&b=1);c2(0=0)");
        far(desk, 2, 0, 1);
        due("in two STEPS", 2, desk.x.least(0, 1, 40));
        due("as much, in one", 1, desk.x.least(1, 0, 40));
    }

    private static void farNone() {
        sentence("14: -2: no two have a way; NONE: no such what");
        Desk desk = new Desk();
        for (int words = 0; words < 3; words++) {
            for (int what = 0; what < 3; what++) {
                due("of " + words + " WORDS, what " + what, -2, desk.x.far(what));
            }
            for (int what : new int[] {-1, 3, MIN, MAX}) {
                due("NONE is told first, what " + what, -1, desk.x.far(what));
            }
            desk.words(new String[] {"a", "xyz", "b"}[words]);
        }
        due("two have", 1, desk.x.far(0));
        due("what 2 is the last", 2, desk.x.far(2));
        due("what 3", -1, desk.x.far(3));
        due("what -1", -1, desk.x.far(-1));
        desk.x.bar(0, true);
        due("no USED ones have", -2, desk.x.far(0));
        desk.x.bar(0, false);
        desk.law("n(0=0)");
        due("no STEP may be", -2, desk.x.far(0));
    }

    private static void between(Desk desk, int word, int twos) {
        due("the WORD", word, desk.x.between(0));
        due("of how many twos", twos, desk.x.between(1));
    }

    private static void betweenTwos() {
        sentence("BY WHICH MOST GO: the USED WORD on a row of least COST (not at its ends) of most twos (from, to)");
        between(Desk.of("aaa aab abb"), 1, 2);
        Desk chain = Desk.of("aaa aab abb bbb bbbb");
        between(chain, 2, 8);
        chain.law("n(a=4)");
        between(chain, 2, 6);
        chain.law("n(a>0&b<a)");
        between(chain, 2, 4);
        Desk square = Desk.of("aa xa bb ab");
        square.law("n(k=3)");
        between(square, 0, 4);
        Desk likes = Desk.of("ab bb ba aa");
        between(likes, 0, 2);
        likes.law("c2(b=0)");
        between(likes, 2, 2);
        Desk three = Desk.of("a b c");
        three.law("c2(a=0&b=2)");
        between(three, 1, 1);
        three.law("c3(a=0&b=2);c9(a=2)");
        between(three, 1, 1);
        three.law("c1(0=0)");
        between(three, 0, 0);
        three.law("c2(a=1&b=2)");
        between(three, 0, 1);
    }

    private static void betweenOfLikeOnes() {
        sentence("BY WHICH MOST GO: of like ones the lowest");
        between(Desk.of("a b"), 0, 0);
        Desk desk = Desk.of("aaa aab abb bbb");
        between(desk, 1, 4);
        desk.x.bar(0, true);
        between(desk, 2, 2);
        desk.x.bar(2, true);
        between(desk, 1, 0);
        desk.law("n(0=0)");
        between(desk, 1, 0);
        Desk one = Desk.of("q");
        between(one, 0, 0);
    }

    /** From 0 two rows lead to 3, and one from there to 4. */
    private static void betweenByTwos() {
        sentence("BY WHICH MOST GO: of most twos (however many rows there are)");
        Desk desk = Desk.of("a b c d e");
        desk.law("n(!(a=0&(b=1|b=2)|(a=1|a=2)&b=3|a=3&b=4))");
        due("rows from 0 to 4", 2, desk.x.howMany(0, 4));
        between(desk, 3, 3);
        desk.law("n(!(a=4&b=3|a=3&(b=1|b=2)|(a=1|a=2)&b=0))");
        between(desk, 3, 3);
    }

    private static void betweenAnew() {
        sentence("BY WHICH MOST GO: told anew when STEPS are others");
        Desk desk = Desk.of("ab bb ba aa");
        desk.law("n(!(a=0|b=0))");
        between(desk, 0, 6);
        desk.law("n(k=3)");
        between(desk, 0, 2);
        desk.x.bar(0, true);
        between(desk, 2, 2);
        desk.x.bar(0, false);
        between(desk, 0, 2);
        desk.x.off();
        between(desk, 1, 2);
        desk.words("zz");
        between(desk, 1, 2);
    }

    private static void betweenNone() {
        sentence("15: -2: no USED WORD; NONE: no such what");
        Desk desk = new Desk();
        due("no WORD", -2, desk.x.between(0));
        due("no WORD", -2, desk.x.between(1));
        due("NONE is told first", -1, desk.x.between(2));
        desk.words("a");
        due("one WORD", 0, desk.x.between(0));
        for (int what : new int[] {-1, 2, MIN, MAX}) {
            due("what " + what, -1, desk.x.between(what));
        }
        desk.x.bar(0, true);
        due("none is USED", -2, desk.x.between(0));
        due("none is USED", -2, desk.x.between(1));
        due("NONE is told first", -1, desk.x.between(-1));
    }

    // ---- A NEW WORD

    private static void newWord(Desk desk, int heaps, int words, String row) {
        due("HEAPS by " + row, heaps, desk.x.newWord(0));
        due("WORDS by " + row, words, desk.x.newWord(1));
        due("length of " + row, row.length(), desk.x.newWord(2));
        Desk.due("the row", row, desk.newRow());
    }

    private static void newWordHeaps() {
        sentence("A NEW WORD: from or to which there is a CHANGE (THE LAW is not asked) of WORDS of most HEAPS");
        newWord(Desk.of("abc dbc"), 1, 2, "bc");
        newWord(Desk.of("ab cd"), 2, 2, "ad");
        newWord(Desk.of("ab cd xad"), 3, 3, "ad");
        Desk desk = Desk.of("aaaa aaab aaac zzzz zyyz");
        newWord(desk, 2, 2, "zyzz");
        desk.law("n(0=0)");
        newWord(desk, 3, 3, "aaa");
        Desk oneWay = Desk.of("abc abd");
        oneWay.law("n(a=0)");
        newWord(oneWay, 2, 2, "ab");
    }

    private static void newWordByEachKind() {
        sentence("A NEW WORD: by each KIND of CHANGE, at each place");
        newWord(Desk.of("bd ac"), 2, 2, "ad");
        newWord(Desk.of("bdf bcadf"), 2, 2, "badf");
        newWord(Desk.of("bd bcad"), 2, 2, "bad");
        newWord(Desk.of("bcad bd"), 2, 2, "bad");
        newWord(Desk.of("cd bacd"), 2, 2, "acd");
        newWord(Desk.of("cda cdazz"), 2, 2, "cdaz");
        newWord(Desk.of("xmnopq ymnopqz"), 2, 2, "ymnopq");
        newWord(Desk.of("mnopqx mnopqyz"), 2, 2, "mnopqy");
        newWord(Desk.of("abcd bacde"), 2, 2, "bacd");
        newWord(Desk.of("bacde abcd"), 2, 2, "bacd");
        newWord(Desk.of("ab xaby"), 2, 2, "aby");
        newWord(Desk.of("mnop nmpo"), 2, 2, "mnpo");
        Desk longest = Desk.of("abcdefg bcdefgh bcdefg");
        longest.x.bar(2, true);
        newWord(longest, 2, 2, "abcdefgh");
        sentence("A NEW WORD: (THE LAW is not asked) by each KIND of CHANGE");
        String[] twos = {"bd ac", "bdf bcadf", "bd bcad", "cd bacd", "cda cdazz", "xmnopq ymnopqz", "abcd bacde", "bacde abcd", "mnop nmpo"};
        String[] dues = {"ad", "badf", "bad", "acd", "cdaz", "ymnopq", "bacd", "bacd", "mnpo"};
        for (int i = 0; i < twos.length; i++) {
            Desk desk = Desk.of(twos[i]);
            for (String law : new String[] {"n(0=0)", "n(k=0)", "n(k=1)", "n(k=2)", "n(k=3)", "c9(0=0)"}) {
                desk.law(law);
                newWord(desk, 2, 2, dues[i]);
            }
        }
    }

    private static void newWordOfLikeOnes() {
        sentence("A NEW WORD: of like ones of most USED WORDS; the shortest; the first by the alphabet");
        newWord(Desk.of("ab ac ad"), 1, 3, "a");
        newWord(Desk.of("abc abd xyz xyq"), 1, 2, "ab");
        newWord(Desk.of("xyz xyq abc"), 1, 2, "xy");
        newWord(Desk.of("bcd"), 1, 1, "bc");
        newWord(Desk.of("xyz"), 1, 1, "xy");
        newWord(Desk.of("zb zc"), 1, 2, "z");
        newWord(Desk.of("zy zx"), 1, 2, "z");
        newWord(Desk.of("bbbb"), 1, 1, "bbb");
        newWord(Desk.of("b"), 1, 1, "a");
        newWord(Desk.of("a"), 1, 1, "b");
        newWord(Desk.of("a b"), 1, 2, "c");
        Desk desk = Desk.of("ab ac ad");
        desk.x.bar(2, true);
        newWord(desk, 1, 2, "a");
        desk.x.bar(1, true);
        newWord(desk, 1, 1, "a");
    }

    /** What counts first is asked first, in whichever order the WORDS stand. */
    private static void newWordRanks() {
        sentence("A NEW WORD: most HEAPS, then most USED WORDS, then the shortest, then the first by the alphabet");
        newWord(Desk.of("aaaa aaab aaac zzzz zyyz"), 2, 2, "zyzz");
        newWord(Desk.of("zzzz zyyz aaaa aaab aaac"), 2, 2, "zyzz");
        newWord(Desk.of("zzzz aaaa zyyz aaab aaac"), 2, 2, "zyzz");
        newWord(Desk.of("aaab aaac aaad xy xz"), 1, 3, "aaa");
        newWord(Desk.of("xy xz aaab aaac aaad"), 1, 3, "aaa");
        newWord(Desk.of("abcd abce xy xz"), 1, 2, "x");
        newWord(Desk.of("xy xz abcd abce"), 1, 2, "x");
        newWord(Desk.of("abc abd xyz xyq"), 1, 2, "ab");
        newWord(Desk.of("xyz xyq abc abd"), 1, 2, "ab");
    }

    private static void newWordLengths() {
        sentence("A NEW WORD: a row of 1 to 8 LETTERS");
        newWord(Desk.of("aaaaaaaa baaaaaab"), 2, 2, "aaaaaaab");
        newWord(Desk.of("aaaaaaaz aaaaaaza"), 1, 2, "aaaaaaa");
        newWord(Desk.of("abcdefg"), 1, 1, "abcdef");
        newWord(Desk.of("z"), 1, 1, "a");
        Desk nine = Desk.of("abcdefgh bcdefghi bcdefgh");
        nine.x.bar(2, true);
        newWord(nine, 1, 1, "abcdefg");
        Desk behindZ = Desk.of("q");
        for (char c = 'a'; c <= 'z'; c++) {
            behindZ.words("q" + c);
        }
        newWord(behindZ, 1, 3, "aq");
        Desk all = new Desk();
        for (char c = 'a'; c <= 'z'; c++) {
            all.words("" + c);
        }
        newWord(all, 1, 2, "ab");
        Desk eight = Desk.of("aaaaaaaa baaaaaab");
        due("its last LETTER", 1, eight.x.newWord(17));
        due("its first one", 0, eight.x.newWord(10));
    }

    private static void newWordIsNoWord() {
        sentence("A NEW WORD: that is no WORD (BARRED ones, too)");
        Desk desk = Desk.of("ab cd ad");
        newWord(desk, 1, 2, "a");
        desk.x.bar(2, true);
        newWord(desk, 2, 2, "cb");
        desk.x.off();
        newWord(desk, 2, 2, "ad");
        Desk other = new Desk();
        other.word("ab", 1, 1);
        other.word("cd", 1, 1);
        other.word("ad", 1, 2);
        other.x.speak(0);
        newWord(other, 2, 2, "cb");
    }

    private static void newWordWhat() {
        sentence("16: what 0 of how many HEAPS, 1 of how many WORDS, 2 its length, 10 + i LETTER i; NONE: no such what");
        Desk desk = Desk.of("aaaaaaaa baaaaaab");
        int[] dues = {2, 2, 8};
        for (int what = -3; what < 10; what++) {
            due("what " + what, what >= 0 && what < 3 ? dues[what] : -1, desk.x.newWord(what));
        }
        for (int i = 0; i < 8; i++) {
            due("LETTER " + i, i < 7 ? 0 : 1, desk.x.newWord(10 + i));
        }
        for (int what : new int[] {18, 19, 20, MIN, MAX}) {
            due("what " + what, -1, desk.x.newWord(what));
        }
        Desk one = Desk.of("b");
        due("LETTER 0", 0, one.x.newWord(10));
        for (int i = 1; i < 8; i++) {
            due("LETTER " + i + " of one", -1, one.x.newWord(10 + i));
        }
    }

    private static void newWordPlaceBehind() {
        sentence("16: -2: no USED WORD; in newWord() NONE of a place that is not there is told behind it");
        Desk desk = new Desk();
        for (int turn = 0; turn < 2; turn++) {
            for (int what = -1; what < 20; what++) {
                boolean is = what >= 0 && what < 3 || what >= 10 && what < 18;
                due("what " + what, is ? -2 : -1, desk.x.newWord(what));
            }
            desk.words("q" + (char) ('a' + turn));
            desk.x.bar(turn, true);
        }
        desk.x.bar(0, false);
        due("one is USED", 1, desk.x.newWord(0));
        due("no LETTER 7", -1, desk.x.newWord(17));
    }

    private static void newWordAnew() {
        sentence("A NEW WORD: told anew when WORDS or HEAPS are others");
        Desk desk = Desk.of("bd ac");
        newWord(desk, 2, 2, "ad");
        desk.x.know(1, 3);
        newWord(desk, 2, 2, "ad");
        desk.x.bar(1, true);
        newWord(desk, 1, 1, "b");
        desk.x.bar(1, false);
        newWord(desk, 2, 2, "ad");
        desk.x.off();
        newWord(desk, 1, 1, "b");
        desk.words("acd");
        newWord(desk, 2, 2, "ad");
        desk.x.off();
        desk.words("be");
        newWord(desk, 1, 2, "b");
        desk.law("n(0=0)");
        newWord(desk, 2, 2, "b");
        desk.law("n(0=1)");
        newWord(desk, 1, 2, "b");
        desk.x.speak(2);
        due("none", -2, desk.x.newWord(0));
        desk.x.speak(0);
        newWord(desk, 1, 2, "b");
    }

    /** What joined the WORDS that are not USED now must not be told any more, wherever it stood. */
    private static void newWordOfFewer() {
        sentence("A NEW WORD: of WORDS that are USED now");
        Desk desk = Desk.of("mn xyz byz");
        newWord(desk, 1, 2, "yz");
        desk.x.bar(1, true);
        desk.x.bar(2, true);
        newWord(desk, 1, 1, "m");
        desk.x.bar(1, false);
        newWord(desk, 1, 1, "m");
        desk.x.bar(2, false);
        newWord(desk, 1, 2, "yz");
        for (int w = 0; w < 3; w++) {
            Desk each = Desk.of("mn xyz byz");
            due("WORDS ahead of that", 2, each.x.newWord(1));
            for (int other = 0; other < 3; other++) {
                each.x.bar(other, other != w);
            }
            newWord(each, 1, 1, new String[] {"m", "xy", "by"}[w]);
        }
    }

    private static void newWordOfForty() {
        sentence("A NEW WORD: of 40 WORDS with most rows beside them");
        Desk desk = new Desk();
        for (int w = 0; w < 38; w++) {
            char a = (char) ('a' + w % 26);
            char b = w < 26 ? a : (char) ('a' + (w + 7) % 26);
            desk.words("" + a + b + a + b + a + b + a);
        }
        for (char c = 'h'; c < 'z'; c++) {
            desk.words(c + "bd " + c + "ac");
            newWord(desk, 2, 2, c + "ad");
            desk.x.off();
            desk.x.off();
        }
    }

    // ---- WALKS

    private static void walksInSteps() {
        sentence("WALKS from a WORD to another one in n STEPS (0 to 10): how many rows of STEPS");
        Desk desk = Desk.of("a b");
        for (int n = 0; n <= 10; n++) {
            due("to itself in " + n, n % 2 == 0 ? 1 : 0, desk.x.walks(0, 0, n));
            due("to the other one in " + n, n % 2, desk.x.walks(0, 1, n));
        }
        for (int n : new int[] {-1, 11, 12, MIN, MAX}) {
            due("in " + n, -1, desk.x.walks(0, 1, n));
        }
        desk.law("n(a=1)");
        due("one way", 1, desk.x.walks(0, 1, 1));
        due("not back", 0, desk.x.walks(1, 0, 1));
        due("in none it is there", 1, desk.x.walks(1, 1, 0));
    }

    /** Two CHANGES and more may make the one WORD of the other: it is one STEP, and its COST does not count. */
    private static void walksByOneStep() {
        sentence("WALKS: how many rows of STEPS (by whichever CHANGE, at whatever COST)");
        Desk desk = Desk.of("aa aaa aaaa");
        for (String law : new String[] {"n(0=1)", "c9(0=0)", "c5(i=0);c3(i=1)", "n(i=0)"}) {
            desk.law(law);
            due("one by " + law, 1, desk.x.walks(0, 1, 1));
            due("back by " + law, 1, desk.x.walks(1, 0, 1));
            due("two by " + law, 1, desk.x.walks(0, 2, 2));
            due("around by " + law, 2, desk.x.walks(1, 1, 2));
            due("ten by " + law, 16, desk.x.walks(0, 0, 10));
        }
    }

    private static void walksNone() {
        sentence("17: WALKS (0 if one is not USED); -1: no such ones");
        Desk desk = Desk.of("a b c");
        desk.x.bar(1, true);
        due("from", 0, desk.x.walks(1, 0, 1));
        due("to", 0, desk.x.walks(0, 1, 1));
        due("both, in none", 0, desk.x.walks(1, 1, 0));
        due("not by it", 1, desk.x.walks(0, 0, 2));
        for (int n : new int[] {-1, 11}) {
            due("NONE is told first", -1, desk.x.walks(1, 0, n));
        }
        for (int w : new int[] {-1, 3, 40, MIN, MAX}) {
            due("from " + w, -1, desk.x.walks(w, 0, 0));
            due("to " + w, -1, desk.x.walks(0, w, 0));
            due("from " + w + " to one that is not USED", -1, desk.x.walks(w, 1, 0));
        }
    }

    private static void walksMany() {
        sentence("long walks: more than an int holds");
        Desk desk = new Desk();
        for (char c = 'a'; c <= 'z'; c++) {
            desk.words("" + c);
        }
        long back = 1;
        long on = 0;
        for (int n = 1; n <= 10; n++) {
            long next = 25 * on;
            on = back + 24 * on;
            back = next;
            due("to itself in " + n, back, desk.x.walks(3, 3, n));
            due("to another one in " + n, on, desk.x.walks(3, 25, n));
        }
        due("it is more", 1, on > MAX ? 1 : 0);
    }

    // ---- DRAWN

    private static void drawnX() {
        sentence("n times (1 to 60): X = (25173 X + 13849) modulo 65536");
        Desk desk = Desk.of("a b c");
        for (int seed : new int[] {0, 1, 2, 32767, 32768, 65534, 65535}) {
            for (int n : new int[] {1, 2, 59, 60}) {
                desk.x.seed(seed);
                desk.x.draw(0, n, n % 2);
                long x = seed;
                for (int i = 0; i < n; i++) {
                    x = (25173 * x + 13849) % 65536;
                }
                due("X of " + seed + " after " + n, x, desk.x.count(4));
            }
        }
        desk.x.seed(65535);
        desk.x.draw(0, 1, 0);
        due("of 65535", 54212, desk.x.count(4));
        desk.x.draw(0, 1, 0);
        due("and on from there", (25173L * 54212 + 13849) % 65536, desk.x.count(4));
    }

    private static void drawnTo() {
        sentence("DRAWN: of WORDS to which there is a STEP, by numbers, the one at X modulo how many there are");
        for (int seed = 0; seed < 9; seed++) {
            int x = (25173 * seed + 13849) % 65536;
            int[] onward = {0, 2, 4};
            Desk desk = Desk.of("a b c xyz d e");
            desk.law("n(b=5)");
            desk.x.seed(seed);
            due("of three, from 1 by X " + x, onward[x % 3], desk.x.draw(1, 1, 0));
            desk.x.bar(2, true);
            desk.x.seed(seed);
            due("of two", x % 2 == 0 ? 0 : 4, desk.x.draw(1, 1, 0));
            desk.x.bar(0, true);
            desk.x.seed(seed);
            due("of one", 4, desk.x.draw(1, 1, 0));
            int then = (25173 * x + 13849) % 65536;
            desk.x.bar(0, false);
            desk.x.bar(2, false);
            desk.x.seed(seed);
            int at = onward[x % 3];
            int[] next = {at == 0 ? 1 : 0, at == 0 || at == 1 ? 2 : 1, at == 4 ? 2 : 4};
            due("and once more", next[then % 3], desk.x.draw(1, 2, 0));
        }
    }

    private static void drawnStays() {
        sentence("DRAWN: none: it stays");
        Desk desk = Desk.of("a xyz b");
        due("there is no STEP", 1, desk.x.draw(1, 60, 0));
        long x = 1;
        for (int i = 0; i < 60; i++) {
            x = (25173 * x + 13849) % 65536;
        }
        due("X goes on n times", x, desk.x.count(4));
        due("one WORD", 1, desk.x.draw(1, 60, 1));
        desk.law("n(a=2)");
        due("it goes where no STEP leads on", 2, desk.x.draw(0, 1, 0));
        due("and stays there", 2, desk.x.draw(0, 60, 0));
        due("two WORDS", 2, desk.x.draw(0, 60, 1));
    }

    private static void drawnWordsOneWasAt() {
        sentence("DRAWN: how many WORDS one was at (the first one counts)");
        Desk desk = Desk.of("a b");
        due("one STEP", 2, desk.x.draw(0, 1, 1));
        due("back and forth", 2, desk.x.draw(0, 60, 1));
        desk.x.bar(1, true);
        due("the first one alone", 1, desk.x.draw(0, 60, 1));
        Desk chain = Desk.chain(40);
        chain.law("n(!b=a+1)");
        for (int n = 1; n <= 39; n++) {
            due("n = " + n, n + 1, chain.x.draw(0, n, 1));
        }
        due("all 40", 40, chain.x.draw(0, 60, 1));
        due("the last one", 39, chain.x.draw(0, 39, 0));
        due("the one ahead of it", 38, chain.x.draw(0, 38, 0));
        Desk three = Desk.of("a b c");
        three.law("n(!b=a+1&!b=a-2)");
        due("around", 3, three.x.draw(0, 3, 1));
        due("at the first one again", 0, three.x.draw(0, 3, 0));
        due("around many times", 3, three.x.draw(0, 60, 1));
    }

    private static void drawNone() {
        sentence("26: n (1 to 60), what 0, 1; NONE: no such ones");
        Desk desk = Desk.of("a b");
        desk.x.seed(7);
        for (int n : new int[] {0, 61, -1, MIN, MAX}) {
            due("n = " + n, -1, desk.x.draw(0, n, 0));
        }
        for (int what : new int[] {-1, 2, MIN, MAX}) {
            due("what " + what, -1, desk.x.draw(0, 1, what));
        }
        for (int w : new int[] {-1, 2, 40, MIN, MAX}) {
            due("WORD " + w, -1, desk.x.draw(w, 1, 0));
        }
        due("X stays", 7, desk.x.count(4));
        due("n = 1", 1, desk.x.draw(0, 1, 0));
        due("n = 60", 0, desk.x.draw(0, 60, 0));
        due("what 1", 2, desk.x.draw(1, 1, 1));
    }

    private static void drawNotUsed() {
        sentence("26: -2: it is not USED (X stays)");
        Desk desk = Desk.of("a b c");
        desk.x.seed(7);
        desk.x.bar(0, true);
        due("what 0", -2, desk.x.draw(0, 1, 0));
        due("what 1", -2, desk.x.draw(0, 60, 1));
        due("X stays", 7, desk.x.count(4));
        due("NONE is told first: n", -1, desk.x.draw(0, 61, 0));
        due("NONE is told first: what", -1, desk.x.draw(0, 1, 2));
        due("X stays", 7, desk.x.count(4));
        due("a USED one", 2, desk.x.draw(1, 1, 0));
        desk.x.speak(1);
        due("of another TONGUE", -2, desk.x.draw(1, 1, 0));
    }
}
