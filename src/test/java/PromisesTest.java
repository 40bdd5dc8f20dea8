/** Each promise of the document: ordinary inputs, the edges that it names, wrong inputs. */
public final class PromisesTest {
    private PromisesTest() {
    }

    public static void main(String[] args) {
        newObject();
        feed();
        word();
        bar();
        know();
        speak();
        law();
        step();
        least();
        leastOfLikeOnes();
        howMany();
        without();
        heap();
        far();
        between();
        newWord();
        newWordEdges();
        walks();
        row();
        rowRefused();
        game();
        farBy();
        near();
        clear();
        rubbed();
        square();
        seedAndDraw();
        off();
        check();
        count();
        Desk.end();
    }

    private static void due(String what, long want, long got) {
        Desk.due(what, want, got);
    }

    private static void due(String what, boolean want, boolean got) {
        Desk.due(what, want, got);
    }

    private static Desk deskOf(String rows) {
        Desk desk = new Desk();
        desk.words(rows);
        return desk;
    }

    private static void newObject() {
        LetterHeaps x = new LetterHeaps();
        due("1: NONE", -1, LetterHeaps.NONE);
        int[] counts = {0, 0, 0, 0, 1, -1};
        for (int what = 0; what < counts.length; what++) {
            due("1: count " + what, counts[what], x.count(what));
        }
        LetterHeaps y = new LetterHeaps();
        y.seed(7);
        y.feed(1, 2, 3, 4, 5);
        due("1: all memory is the object's own", 1, x.count(4));
        due("1: the tape, too", 0, x.count(3));
    }

    private static void feed() {
        Desk desk = new Desk();
        for (int i = 1; i <= 10; i++) {
            due("2: feed " + i, 20 * i, desk.x.feed(0x61626364, 0x65666768, 0, -1, 0x80000000));
        }
        due("2: no more than 200", -1, desk.x.feed(0, 0, 0, 0, 0));
        due("2: refused, it changes nothing", 200, desk.x.count(3));
        due("2: the highest byte first", 0, desk.x.word(8, 1, 1));
        int[] abcdefgh = {0, 1, 2, 3, 4, 5, 6, 7};
        due("2: in their order", -1, desk.check(0, abcdefgh));
        due("2: low and negative numbers", -1, checkOfSigns(desk));
    }

    private static int checkOfSigns(Desk desk) {
        desk.x.feed(-1, 0x00000001, 0x7fffffff, 0, 0);
        due("2: a number below 0 comes as it went", 0, desk.x.check(0, 1));
        desk.x.feed(0, 1, 2, 3, 4);
        desk.x.feed(5, 6, 7, 0, 0);
        return desk.x.check(0, 8);
    }

    private static void word() {
        Desk desk = new Desk();
        due("3: the tape has not so many", -1, desk.x.word(1, 0, 1));
        desk.tape("abcdefgh");
        int[][] wrongOnes = {{0, 0, 1}, {9, 0, 1}, {-1, 0, 1}, {3, -1, 1}, {3, 100, 1}, {3, 0, 0}, {3, 0, 16}, {3, 0, -1}};
        for (int[] w : wrongOnes) {
            due("3: no such ones", -1, desk.x.word(w[0], w[1], w[2]));
            due("3: the tape stays", 20, desk.x.count(3));
        }
        due("3: a WORD of eight", 0, desk.x.word(8, 99, 15));
        due("3: the tape is empty then", 0, desk.x.count(3));
        due("3: it is a WORD", -2, desk.word("abcdefgh", 0, 1));
        due("3: the tape is empty then, too", 0, desk.x.count(3));
        due("3: a part of it is none yet", 1, desk.word("abcdefg", 0, 1));
        due("3: one LETTER", 2, desk.word("z", 0, 2));
        due("3: below a", -2, desk.word("a`", 0, 1));
        due("3: above z", -2, desk.word("a{", 0, 1));
        due("3: a high byte", -2, desk.word("a" + (char) 225, 0, 1));
        due("3: large ones are none", -2, desk.word("A", 0, 1));
        desk.x.bar(2, true);
        due("3: a BARRED one is a WORD, too", -2, desk.word("z", 0, 1));
        for (int i = 3; i < 40; i++) {
            due("3: word " + i, i, desk.word("q" + (char) ('a' + i % 26) + (char) ('a' + i / 26), 0, 1));
        }
        desk.tape("new");
        due("3: 40 are there", -1, desk.x.word(3, 0, 1));
        due("3: the tape stays for the 41st", 20, desk.x.count(3));
        due("3: NONE ahead of -2", -1, desk.word("qda", 0, 1));
        due("3: 40 WORDS", 40, desk.x.count(0));
    }

    private static void bar() {
        Desk desk = deskOf("ab ac");
        due("4: it is so", false, desk.x.bar(0, false));
        due("4: BARRED", true, desk.x.bar(0, true));
        due("4: not USED", 0, desk.x.count(100));
        due("4: the other one is", 1, desk.x.count(101));
        due("4: it is so now", false, desk.x.bar(0, true));
        due("4: no more BARRED", true, desk.x.bar(0, false));
        due("4: USED", 1, desk.x.count(100));
        due("4: no such WORD", false, desk.x.bar(2, true));
        due("4: none below 0", false, desk.x.bar(-1, true));
        desk.x.bar(1, true);
        desk.x.off();
        due("4: a new one is not BARRED", 1, desk.word("ad", 1, 1));
        due("4: so it is USED", 1, desk.x.count(101));
    }

    private static void know() {
        Desk desk = deskOf("ab ac");
        due("5: know", true, desk.x.know(1, 99));
        due("5: it is", 99, desk.x.count(61));
        due("5: the same once more", true, desk.x.know(1, 99));
        due("5: 0", true, desk.x.know(1, 0));
        due("5: the other one stays", 50, desk.x.count(60));
        due("5: 100", false, desk.x.know(1, 100));
        due("5: below 0", false, desk.x.know(1, -1));
        due("5: no such WORD", false, desk.x.know(2, 5));
        due("5: none below 0", false, desk.x.know(-1, 5));
        due("5: refused, it stays", 0, desk.x.count(61));
        desk.law("cf*2+g(0=0)");
        desk.x.know(0, 3);
        due("5: THE LAW sees it", 6, desk.x.step(0, 1, 0));
        desk.x.know(1, 4);
        due("5: at once", 10, desk.x.step(0, 1, 0));
    }

    private static void speak() {
        Desk desk = new Desk();
        desk.word("ab", 1, 1);
        desk.word("ac", 1, 6);
        desk.word("ad", 1, 15);
        int[][] used = {{0, 2}, {1, 2}, {1, 2}, {2, 2}};
        for (int tongue = 0; tongue < 4; tongue++) {
            due("6: speak " + tongue, true, desk.x.speak(tongue));
            due("6: count 5", tongue, desk.x.count(5));
            due("6: of two", tongue < 3 ? 2 : 1, desk.x.count(1));
            due("6: one", 1, desk.x.count(100 + used[tongue][0]));
            due("6: and the other", 1, desk.x.count(100 + used[tongue][1]));
        }
        due("6: the same again", true, desk.x.speak(3));
        due("6: 4", false, desk.x.speak(4));
        due("6: -2", false, desk.x.speak(-2));
        due("6: refused, it stays", 3, desk.x.count(5));
        due("6: all", true, desk.x.speak(-1));
        due("6: all are USED", 3, desk.x.count(1));
    }

    private static void law() {
        Desk desk = deskOf("ab ac");
        due("7: not so many", -1, desk.x.law(1));
        desk.tape("c7(0=0)");
        due("7: 0", -1, desk.x.law(0));
        due("7: 161", -1, desk.x.law(161));
        due("7: 21", -1, desk.x.law(21));
        due("7: the tape stays", 20, desk.x.count(3));
        due("7: one CLAUSE", 1, desk.x.law(7));
        due("7: empty then", 0, desk.x.count(3));
        due("7: it holds", 7, desk.x.step(0, 1, 0));
        due("7: a FAULT", -1003, desk.law("c7("));
        due("7: empty then, too", 0, desk.x.count(3));
        due("7: the TEXT before stays", 7, desk.x.step(0, 1, 0));
        due("7: its CLAUSES", 1, desk.x.count(2));
        due("7: in place of the one before", 2, desk.law("n(k=1);c8(a=1)"));
        due("7: nothing is left of it", 1, desk.x.step(0, 1, 0));
        due("7: the new one", 8, desk.x.step(1, 0, 0));
        StringBuilder text = new StringBuilder("c9(0=1");
        while (text.length() < 159) {
            text.append("&0=0");
        }
        text.setLength(158);
        text.append("0)");
        due("7: 160 bytes", 1, desk.law(text.toString()));
    }

    private static void step() {
        Desk desk = deskOf("abc abd abdd bad c ab");
        int[][] dues = {{0, 1, 1, 0, 2}, {1, 2, 1, 1, 2}, {2, 1, 1, 2, 2}, {1, 3, 1, 3, 0}, {0, 5, 1, 2, 2}, {5, 1, 1, 1, 2}};
        for (int[] d : dues) {
            for (int what = 0; what < 3; what++) {
                due("8: step " + d[0] + " " + d[1] + " " + what, d[2 + what], desk.x.step(d[0], d[1], what));
            }
        }
        due("8: none", -2, desk.x.step(0, 3, 0));
        due("8: to itself", -2, desk.x.step(0, 0, 1));
        due("8: two LETTERS longer", -2, desk.x.step(4, 0, 0));
        int[][] none = {{6, 0, 0}, {0, 6, 0}, {-1, 0, 0}, {0, -1, 0}, {0, 1, 3}, {0, 1, -1}, {0, 0, 3}};
        for (int[] n : none) {
            due("8: no such ones", -1, desk.x.step(n[0], n[1], n[2]));
        }
        desk.law("c9-i(k=1);c5+i(k=2)");
        due("8: least COST, not the first place", 6, desk.x.step(1, 2, 0));
        due("8: its place", 3, desk.x.step(1, 2, 2));
        due("8: least COST of those left out", 7, desk.x.step(2, 1, 0));
        due("8: of the first place", 2, desk.x.step(2, 1, 2));
        desk.law("n(k=2&i=2);n(k=0)");
        due("8: what may not be is passed over", 3, desk.x.step(2, 1, 2));
        due("8: may not be at all", -2, desk.x.step(0, 1, 0));
        desk.law("n(0=1)");
        desk.x.bar(1, true);
        due("8: to one that is not USED", -2, desk.x.step(0, 1, 0));
        due("8: from one that is not USED", -2, desk.x.step(1, 0, 0));
    }

    /** Five WORDS of which each is one STEP from the ones beside it alone. */
    private static Desk chain() {
        return deskOf("aaa aab abb bbb bbbb");
    }

    private static void least() {
        Desk desk = chain();
        due("9: COST", 4, desk.x.least(0, 4, -1));
        due("9: STEPS", 4, desk.x.least(0, 4, 40));
        Desk.due("9: the row", "0 1 2 3 4", desk.way(0, 4));
        Desk.due("9: and back", "4 3 2 1 0", desk.way(4, 0));
        due("9: to itself", 0, desk.x.least(2, 2, -1));
        due("9: itself", 2, desk.x.least(2, 2, 0));
        due("9: no such place", -1, desk.x.least(0, 4, 5));
        due("9: 39 is a place", -1, desk.x.least(0, 4, 39));
        due("9: 41", -1, desk.x.least(0, 4, 41));
        due("9: -2", -1, desk.x.least(0, 4, -2));
        due("9: no such WORD", -1, desk.x.least(5, 0, -1));
        due("9: none below 0", -1, desk.x.least(0, -1, -1));
        desk.law("n(a=2&b=3)");
        due("9: no way", -2, desk.x.least(0, 4, -1));
        due("9: -2 ahead of a place that is not there", -2, desk.x.least(0, 4, 7));
        due("9: but the other way", 4, desk.x.least(4, 0, -1));
        desk.law("c150(a=0);c0-5(a=1)");
        due("9: beyond the bounds the bound", 102, desk.x.least(0, 4, -1));
        desk.x.bar(1, true);
        due("9: USED ones alone", -2, desk.x.least(0, 2, -1));
        due("9: one that is not USED to itself", -2, desk.x.least(1, 1, -1));
    }

    private static void leastOfLikeOnes() {
        Desk desk = deskOf("aa ba ab bb");
        Desk.due("9: the least row", "0 1 3", desk.way(0, 3));
        Desk.due("9: from the other side", "3 1 0", desk.way(3, 0));
        desk.law("c5(b=1)");
        Desk.due("9: the least COST first", "0 2 3", desk.way(0, 3));
        Desk three = deskOf("a b c");
        three.law("c2(a=0&b=2)");
        Desk.due("9: of fewest STEPS", "0 2", three.way(0, 2));
        due("9: of that COST", 2, three.x.least(0, 2, -1));
        three.law("c3(a=0&b=2)");
        Desk.due("9: least COST ahead of few STEPS", "0 1 2", three.way(0, 2));
    }

    private static void howMany() {
        Desk desk = deskOf("aa ba ab bb");
        due("10: two rows", 2, desk.x.howMany(0, 3));
        due("10: to itself", 1, desk.x.howMany(0, 0));
        due("10: no such ones", -1, desk.x.howMany(0, 4));
        due("10: no such ones, either", -1, desk.x.howMany(-1, 0));
        desk.law("c3(a=0&b=1)");
        due("10: the dear one does not count", 1, desk.x.howMany(0, 3));
        desk.law("n(b=3)");
        due("10: none", 0, desk.x.howMany(0, 3));
        desk.law("n(1=0)");
        desk.x.bar(0, true);
        due("10: not USED", 0, desk.x.howMany(0, 0));
        Desk three = deskOf("a b c");
        three.law("c2(a=0&b=2)");
        due("10: however many STEPS", 2, three.x.howMany(0, 2));
        Desk cube = deskOf("aaa aab aba abb baa bab bba bbb");
        due("10: six ways over a cube", 6, cube.x.howMany(0, 7));
    }

    private static void without() {
        Desk desk = chain();
        due("11: all between", 14, desk.x.without(0, 4));
        due("11: back", 14, desk.x.without(4, 0));
        due("11: none between", 0, desk.x.without(0, 1));
        due("11: itself", 0, desk.x.without(2, 2));
        due("11: no such ones", -1, desk.x.without(0, 5));
        due("11: none below 0", -1, desk.x.without(-1, 0));
        desk.word("aba", 1, 1);
        due("11: a way around", 12, desk.x.without(0, 4));
        desk.law("n(a=5&b=2)");
        due("11: by THE LAW no more", 14, desk.x.without(0, 4));
        due("11: the other way it is there", 12, desk.x.without(4, 0));
        desk.x.bar(3, true);
        due("11: no way", -2, desk.x.without(0, 4));
        due("11: not USED", -2, desk.x.without(3, 3));
        Desk three = deskOf("a b c");
        three.law("c9(a=0&b=2)");
        due("11: each row, not the least ones alone", 0, three.x.without(0, 2));
    }

    private static void heap() {
        Desk desk = deskOf("aa ab xx xy yy q");
        int[] lowest = {0, 0, 2, 2, 2, 5};
        for (int w = 0; w < 6; w++) {
            due("12: heap " + w, lowest[w], desk.x.heap(w));
        }
        due("13: heaps", 3, desk.x.heaps());
        due("12: no such one", -1, desk.x.heap(6));
        due("12: none below 0", -1, desk.x.heap(-1));
        desk.law("n(a=4)");
        due("12: both ways", 4, desk.x.heap(4));
        due("12: the others stay", 2, desk.x.heap(3));
        due("13: both ways", 4, desk.x.heaps());
        desk.law("n(a=2&b=3);n(a=4&b=3)");
        due("12: one way is not enough", 3, desk.x.heap(3));
        desk.law("n(1=0)");
        desk.x.bar(3, true);
        due("12: not USED", -2, desk.x.heap(3));
        due("12: cut in two", 4, desk.x.heap(4));
        due("13: BARRED ones do not count", 4, desk.x.heaps());
        desk.x.speak(2);
        due("13: none is USED", 0, desk.x.heaps());
        due("13: none at first", 0, new LetterHeaps().heaps());
    }

    private static void far() {
        Desk desk = chain();
        int[] dues = {4, 0, 4};
        for (int what = 0; what < 3; what++) {
            due("14: far " + what, dues[what], desk.x.far(what));
        }
        due("14: no such what", -1, desk.x.far(3));
        due("14: none below 0", -1, desk.x.far(-1));
        desk.law("c2(a=4)");
        int[] back = {5, 4, 0};
        for (int what = 0; what < 3; what++) {
            due("14: back it is more, " + what, back[what], desk.x.far(what));
        }
        desk.law("n(a<9)");
        due("14: no way", -2, desk.x.far(0));
        due("14: NONE first", -1, desk.x.far(3));
        Desk one = deskOf("a");
        due("14: one WORD is no two", -2, one.x.far(0));
        one.words("b c");
        due("14: the least first", 0, one.x.far(1));
        due("14: then the least second", 1, one.x.far(2));
    }

    private static void between() {
        Desk desk = chain();
        due("15: the middle one", 2, desk.x.between(0));
        due("15: of how many twos", 8, desk.x.between(1));
        due("15: no such what", -1, desk.x.between(2));
        due("15: none below 0", -1, desk.x.between(-1));
        desk.x.bar(2, true);
        due("15: the lowest of like ones", 0, desk.x.between(0));
        due("15: of none", 0, desk.x.between(1));
        desk.x.bar(0, true);
        due("15: a USED one", 1, desk.x.between(0));
        desk.x.speak(3);
        due("15: no USED WORD", -2, desk.x.between(0));
        due("15: NONE first", -1, desk.x.between(2));
        Desk four = deskOf("ab bb ba aa");
        due("15: any row of least COST counts", 0, four.x.between(0));
        due("15: of two twos", 2, four.x.between(1));
        four.law("c3(b=0)");
        due("15: the dear one is on none", 2, four.x.between(0));
        due("15: but the other one is", 2, four.x.between(1));
    }

    private static void newWord() {
        Desk desk = deskOf("ab cd");
        due("16: HEAPS", 2, desk.x.newWord(0));
        due("16: WORDS", 2, desk.x.newWord(1));
        due("16: its length", 2, desk.x.newWord(2));
        Desk.due("16: the first by the alphabet", "ad", desk.newRow());
        due("16: beyond it", -1, desk.x.newWord(12));
        desk.x.bar(desk.word("ad", 1, 1), true);
        Desk.due("16: no WORD, BARRED ones either", "cb", desk.newRow());
        desk.law("n(0=0)");
        due("16: THE LAW is not asked", 2, desk.x.newWord(1));
        desk.x.speak(2);
        due("16: no USED WORD", -2, desk.x.newWord(0));
        due("16: -2 ahead of a LETTER that is not there", -2, desk.x.newWord(17));
        int[] none = {-1, 3, 9, 18};
        for (int what : none) {
            due("16: no such what " + what, -1, desk.x.newWord(what));
        }
        Desk heaps = deskOf("aaaa aaab aaba aabb cccc");
        heaps.law("n(b=1)");
        due("16: HEAPS as by THE LAW", 3, heaps.x.heaps());
        due("16: of most HEAPS", 2, heaps.x.newWord(0));
    }

    private static void newWordEdges() {
        Desk one = deskOf("b");
        due("16: one WORD of one LETTER", 1, one.x.newWord(1));
        Desk.due("16: the shortest", "a", one.newRow());
        Desk eight = deskOf("abcdefgh");
        Desk.due("16: one left out is shorter", "abcdefg", eight.newRow());
        due("16: seven LETTERS", 7, eight.x.newWord(2));
        due("16: the eighth is not there", -1, eight.x.newWord(17));
        Desk about = deskOf("ba aabb ccc");
        due("16: by all KINDS one WORD", 1, about.x.newWord(1));
        Desk more = deskOf("ab ac ad xyz");
        due("16: of like HEAPS most WORDS", 3, more.x.newWord(1));
        Desk.due("16: and the shortest of these", "a", more.newRow());
        Desk eights = deskOf("aaaaaaaa baaaaaab");
        Desk.due("16: no row of nine", "aaaaaaab", eights.newRow());
        Desk turned = deskOf("ab ca");
        Desk.due("16: two KINDS at once", "a", turned.newRow());
        due("16: joins both", 2, turned.x.newWord(0));
        Desk.due("16: changed about", "bacd", deskOf("abcd bacdz").newRow());
        Desk.due("16: put in", "aby", deskOf("ab xaby").newRow());
        Desk.due("16: no row is of no LETTERS", "c", deskOf("a b").newRow());
    }

    private static void walks() {
        Desk desk = deskOf("a b c");
        due("17: none in no STEPS", 0, desk.x.walks(0, 1, 0));
        due("17: itself in none", 1, desk.x.walks(0, 0, 0));
        due("17: one", 1, desk.x.walks(0, 1, 1));
        due("17: back and forth", 2, desk.x.walks(0, 0, 2));
        due("17: ten", 342, desk.x.walks(0, 0, 10));
        due("17: eleven", -1, desk.x.walks(0, 0, 11));
        due("17: below 0", -1, desk.x.walks(0, 0, -1));
        due("17: no such ones", -1, desk.x.walks(0, 3, 1));
        due("17: none below 0", -1, desk.x.walks(-1, 0, 1));
        desk.law("n(a=0&b=1)");
        due("17: from, not to", 0, desk.x.walks(0, 1, 1));
        due("17: to, not from", 1, desk.x.walks(1, 0, 1));
        desk.x.bar(0, true);
        due("17: not USED", 0, desk.x.walks(0, 0, 0));
        Desk many = new Desk();
        for (int i = 0; i < 26; i++) {
            many.word("" + (char) ('a' + i), 1, 1);
        }
        due("17: more than an int holds", 95367431640624L / 26 + 1, many.x.walks(0, 0, 10) / 1);
    }

    private static void row() {
        Desk desk = deskOf("a b c ab");
        due("18: COST", 3, desk.row(-1, 3, 2, 1, 0));
        desk.law("c5(a=0&b=2);c4(a=2&b=0);c9(a=3);c7(b=3&a=0)");
        due("18: by the cheapest", 6, desk.row(-1, 3, 2, 1, 0));
        int[] cheapest = {2, 0, 1, 3};
        for (int i = 0; i < 4; i++) {
            due("18: it has at " + i, cheapest[i], desk.row(i, 3, 2, 1, 0));
        }
        int[] least = {0, 1, 2};
        for (int i = 0; i < 3; i++) {
            due("18: the least row at " + i, least[i], desk.row(i, 2, 1, 0));
        }
        desk.law("n(a=0&b>0);c3(a=2&b=1)");
        due("18: none from the first but at the end", 2, desk.row(-1, 0, 1, 2));
        int[] other = {1, 2, 0};
        for (int i = 0; i < 3; i++) {
            due("18: another row at " + i, other[i], desk.row(i, 0, 1, 2));
        }
        desk.law("n(b=3);n(a=3)");
        due("18: none", -2, desk.row(-1, 0, 3));
        due("18: by STEPS between these alone", -2, deskOf("aa ab bb").row(-1, 0, 2));
    }

    private static void rowRefused() {
        Desk desk = deskOf("a b c d e f g h i j k");
        due("18: ten", 9, desk.row(-1, 9, 8, 7, 6, 5, 4, 3, 2, 1, 0));
        due("18: the last of ten", 9, desk.row(9, 9, 8, 7, 6, 5, 4, 3, 2, 1, 0));
        due("18: the tape is empty then", 0, desk.x.count(3));
        due("18: eleven", -1, desk.row(-1, 0, 1, 2, 3, 4, 5, 6, 7, 8, 9, 10));
        due("18: the tape stays", 20, desk.x.count(3));
        due("18: one", -1, desk.x.row(1, -1));
        due("18: below -1", -1, desk.x.row(2, -2));
        due("18: behind the row", -1, desk.x.row(2, 2));
        due("18: not so many", -1, new Desk().x.row(2, -1));
        due("18: the tape stayed", 1, desk.x.row(2, -1));
        due("18: no such WORD", -3, desk.row(-1, 0, 11));
        due("18: a high byte", -3, desk.row(-1, 0, 255));
        due("18: one twice", -3, desk.row(-1, 3, 3));
        desk.law("n(0=0)");
        due("18: no STEPS", -2, desk.row(-1, 0, 1));
        desk.x.bar(1, true);
        due("18: not USED, ahead of -2", -3, desk.row(-1, 0, 1));
        due("18: the tape is empty then, too", 0, desk.x.count(3));
    }

    private static void game() {
        Desk desk = chain();
        due("19: one STEP", 1, desk.game(0, 0, 1));
        due("19: by that", 1, desk.game(1, 0, 1));
        due("19: two STEPS", 0, desk.game(0, 0, 1, 2));
        due("19: it loses", -2, desk.game(1, 0, 1, 2));
        due("19: not from the first: the shorter side wins", 1, desk.game(0, 1, 0, 2, 3));
        due("19: by which", 0, desk.game(1, 1, 3, 2, 0));
        due("19: no STEP at all", 0, desk.game(0, 0, 4));
        due("19: one", -1, desk.x.game(1, 0));
        due("19: what 2", -1, desk.game(2, 0, 1));
        due("19: the tape stays", 20, desk.x.count(3));
        due("19: what -1", -1, desk.x.game(2, -1));
        due("19: it is read then", 1, desk.x.game(2, 0));
        due("19: not so many", -1, desk.x.game(2, 0));
        due("19: no such WORD", -3, desk.game(0, 0, 5));
        due("19: one twice", -3, desk.game(0, 0, 0));
        desk.x.bar(1, true);
        due("19: not USED", -3, desk.game(1, 0, 1));
        Desk many = deskOf("a b c d e f g h i j k l m");
        due("19: twelve", 1, many.game(0, 0, 1, 2, 3, 4, 5, 6, 7, 8, 9, 10, 11));
        due("19: the lowest that wins", 0, many.game(1, 11, 1, 2, 3, 4, 5, 6, 7, 8, 9, 10, 0));
        due("19: thirteen", -1, many.game(0, 0, 1, 2, 3, 4, 5, 6, 7, 8, 9, 10, 11, 12));
        due("19: odd ones are lost", 0, many.game(0, 0, 1, 2));
        many.law("n(a=0&b=1);n(a=2)");
        due("19: by the LAW", 2, many.game(1, 0, 1, 2));
    }

    private static void farBy() {
        Desk desk = deskOf("kitten sitting ab ba abcdefgh bcdefghi a z");
        due("20: as is known", 3, desk.x.farBy(0, 1));
        due("20: both ways", 3, desk.x.farBy(1, 0));
        due("20: changed about is two", 2, desk.x.farBy(2, 3));
        due("20: one out, one in", 2, desk.x.farBy(4, 5));
        due("20: seven out", 7, desk.x.farBy(4, 6));
        due("20: all other", 8, desk.x.farBy(4, 7));
        due("20: itself", 0, desk.x.farBy(4, 4));
        desk.x.bar(0, true);
        due("20: BARRED ones, too", 3, desk.x.farBy(0, 1));
        due("20: no such ones", -1, desk.x.farBy(0, 8));
        due("20: none below 0", -1, desk.x.farBy(-1, 0));
    }

    private static void near() {
        Desk desk = deskOf("abc abd xbz");
        due("21: how far", 1, desk.near("abz", 0));
        due("21: the lowest", 0, desk.near("abz", 1));
        due("21: how many", 3, desk.near("abz", 2));
        due("21: a WORD itself", 0, desk.near("abd", 0));
        due("21: which", 1, desk.near("abd", 1));
        due("21: it alone", 1, desk.near("abd", 2));
        due("21: twelve LETTERS", 10, desk.near("qqqqqqbzqqqq", 0));
        due("21: the one of two LETTERS that fit", 2, desk.near("qqqqqqbzqqqq", 1));
        due("21: one LETTER", 2, desk.near("c", 0));
        due("21: no LETTER", -2, desk.near("ab?", 0));
        due("21: the tape is empty then", 0, desk.x.count(3));
        desk.tape("abcabcabcabcabc");
        int[][] none = {{0, 0}, {13, 0}, {3, 3}, {3, -1}, {-1, 0}};
        for (int[] n : none) {
            due("21: no such ones", -1, desk.x.near(n[0], n[1]));
        }
        due("21: the tape stays", 20, desk.x.count(3));
        due("21: it is read then", 0, desk.x.near(3, 0));
        due("21: not so many", -1, desk.x.near(1, 0));
        desk.x.bar(0, true);
        due("21: USED ones alone", 1, desk.near("abc", 1));
        desk.x.speak(1);
        due("21: no USED WORD", -2, desk.near("abc", 1));
    }

    private static void clear() {
        Desk desk = deskOf("aaa aab abb bbb zzz");
        due("22: all", 31, desk.clear(1, 1, 0, 1, 2, 3, 4));
        due("22: two far", 3, desk.clear(2, 0, 0, 1, 2, 3, 4));
        due("22: the least set", 0b10101, desk.clear(2, 1, 0, 1, 2, 3, 4));
        due("22: bits by their order", 0b10011, desk.clear(2, 1, 1, 3, 2, 0, 4));
        due("22: three far", 3, desk.clear(3, 0, 0, 1, 2, 3, 4));
        due("22: nine far", 1, desk.clear(9, 0, 0, 1, 2, 3, 4));
        due("22: the first", 1, desk.clear(9, 1, 3, 1, 2));
        due("22: one", 1, desk.clear(1, 1, 4));
        due("22: of like ones the least as bits", 0b0110, deskOf("ab ac bb bc").clear(2, 1, 0, 1, 2, 3));
        desk.x.bar(0, true);
        due("22: BARRED ones, too", 2, desk.clear(1, 0, 0, 1));
        due("22: no such WORD", -3, desk.clear(1, 0, 5));
        due("22: one twice", -3, desk.clear(1, 0, 1, 2, 1));
        due("22: the tape is empty then", 0, desk.x.count(3));
        desk.tape(Desk.list(0, 1, 2, 3, 4));
        int[][] none = {{0, 1, 0}, {15, 1, 0}, {3, 0, 0}, {3, 10, 0}, {3, 1, 2}, {3, 1, -1}};
        for (int[] n : none) {
            due("22: no such ones", -1, desk.x.clear(n[0], n[1], n[2]));
        }
        due("22: the tape stays", 20, desk.x.count(3));
        due("22: it is read then", 3, desk.x.clear(3, 1, 0));
        due("22: not so many", -1, desk.x.clear(1, 1, 0));
        Desk many = deskOf("a b c d e f g h i j k l m n o");
        due("22: fourteen", 14, many.clear(1, 0, 0, 1, 2, 3, 4, 5, 6, 7, 8, 9, 10, 11, 12, 13));
        due("22: their bits", 16383, many.clear(1, 1, 0, 1, 2, 3, 4, 5, 6, 7, 8, 9, 10, 11, 12, 13));
    }

    private static void rubbed() {
        Desk desk = deskOf("abc abd xbz ab");
        due("23: none rubbed out", 2, desk.rubbed("abd"));
        due("23: one", 3, desk.rubbed("ab?"));
        due("23: two", 7, desk.rubbed("?b?"));
        due("23: all of that length", 8, desk.rubbed("??"));
        due("23: none fits", 0, desk.rubbed("????????"));
        due("23: no LETTER", -2, desk.rubbed("ab*"));
        due("23: the tape is empty then", 0, desk.x.count(3));
        desk.tape("ab?");
        due("23: 0", -1, desk.x.rubbed(0));
        due("23: 9", -1, desk.x.rubbed(9));
        due("23: the tape stays", 20, desk.x.count(3));
        due("23: it is read then", 3, desk.x.rubbed(3));
        due("23: not so many", -1, desk.x.rubbed(1));
        desk.x.bar(0, true);
        due("23: USED ones alone", 6, desk.rubbed("?b?"));
        Desk many = new Desk();
        for (int i = 0; i < 40; i++) {
            many.word("" + (char) ('a' + i % 26) + (char) ('a' + i / 26), 1, 1);
        }
        due("23: bits of a long", 1L << 39 | 1L << 13, many.rubbed("n?"));
    }

    private static void square() {
        Desk desk = deskOf("ab ba aa abc bca cab");
        due("24: of two", 7, countSquares("ab ba aa"));
        due("24: how many of two", 7, desk.x.square(2, -1));
        due("24: the first's first row", 0, desk.x.square(2, 0));
        due("24: the first's second row", 1, desk.x.square(2, 1));
        due("24: of three", countSquares("abc bca cab"), desk.x.square(3, -1));
        due("24: rows of three", 2, desk.x.square(3, 2) - desk.x.square(3, 0));
        due("24: of four there are none", 0, desk.x.square(4, -1));
        due("24: so no first", -2, desk.x.square(4, 3));
        int[][] none = {{1, -1}, {5, -1}, {2, 2}, {3, 3}, {4, 4}, {2, -2}, {-1, 0}};
        for (int[] n : none) {
            due("24: no such ones", -1, desk.x.square(n[0], n[1]));
        }
        desk.x.bar(2, true);
        due("24: USED ones alone", countSquares("ab ba"), desk.x.square(2, -1));
        Desk one = deskOf("aaaa");
        due("24: a WORD more than once", 1, one.x.square(4, -1));
        due("24: in each row", 0, one.x.square(4, 3));
        one.words("aaab");
        due("24: of four", countSquares("aaaa aaab"), one.x.square(4, -1));
    }

    /** By trying all. */
    private static int countSquares(String rows) {
        PlainHeaps plain = new PlainHeaps();
        for (String row : rows.split(" ")) {
            PlainHeaps.Word word = new PlainHeaps.Word();
            word.row = row;
            word.tongues = 1;
            plain.words.add(word);
        }
        return plain.square(plain.words.get(0).row.length(), -1);
    }

    private static void seedAndDraw() {
        Desk desk = deskOf("a b c xyz");
        due("25: 65535", true, desk.x.seed(65535));
        due("25: X, too", 65535, desk.x.count(4));
        due("25: 65536", false, desk.x.seed(65536));
        due("25: below 0", false, desk.x.seed(-1));
        due("25: refused, it stays", 65535, desk.x.count(4));
        due("25: 0", true, desk.x.seed(0));
        due("26: to the WORD at 13849 modulo 2", 2, desk.x.draw(0, 1, 0));
        due("26: X", 13849, desk.x.count(4));
        int x = (25173 * 13849 + 13849) % 65536;
        due("26: it goes on from there", x % 2, desk.x.draw(2, 1, 0));
        due("26: X goes on, too", x, desk.x.count(4));
        due("26: no STEP, it stays", 3, desk.x.draw(3, 60, 0));
        for (int i = 0; i < 60; i++) {
            x = (25173 * x + 13849) % 65536;
        }
        due("26: but X goes on", x, desk.x.count(4));
        due("26: one WORD", 1, desk.x.draw(3, 5, 1));
        desk.x.seed(1);
        due("26: three WORDS, each counted once", 3, desk.x.draw(0, 60, 1));
        int[][] none = {{4, 1, 0}, {-1, 1, 0}, {0, 0, 0}, {0, 61, 0}, {0, 1, 2}, {0, 1, -1}};
        x = desk.x.count(4);
        for (int[] n : none) {
            due("26: no such ones", -1, desk.x.draw(n[0], n[1], n[2]));
        }
        desk.x.bar(0, true);
        due("26: not USED", -2, desk.x.draw(0, 1, 0));
        due("26: NONE first", -1, desk.x.draw(0, 0, 0));
        due("26: X stays", x, desk.x.count(4));
    }

    private static void off() {
        Desk desk = deskOf("a abc abcdefgh");
        due("27: the last one", 8, desk.x.off());
        due("27: it is gone", 2, desk.x.count(0));
        due("27: so it may come again", 2, desk.word("abcdefgh", 1, 1));
        due("27: off", 8, desk.x.off());
        due("27: of three LETTERS", 3, desk.x.off());
        due("27: of one", 1, desk.x.off());
        due("27: no WORDS", -1, desk.x.off());
        desk.words("q r");
        due("27: others in their place", 1, desk.x.least(0, 1, -1));
        desk.x.off();
        due("27: no way to what is gone", -1, desk.x.least(0, 1, -1));
        due("27: one HEAP less", 1, desk.x.heaps());
    }

    private static void check() {
        Desk desk = deskOf("owl abcdefgh");
        due("28: right", -1, desk.check(0, 14, 22, 11));
        due("28: the tape is empty then", 0, desk.x.count(3));
        due("28: the first is not so", 0, desk.check(0, 13, 22, 11));
        due("28: the last is not so", 2, desk.check(0, 14, 22, 12));
        due("28: all four bytes count", 1, desk.check(0, 14, 22 + 256, 11));
        due("28: the highest, too", 1, desk.check(0, 14, 22 | 1 << 31, 11));
        due("28: n is above the length", 3, desk.check(0, 14, 22, 11, 0));
        due("28: but a wrong one is ahead of it", 1, desk.check(0, 14, 0, 11, 0));
        due("28: some are lacking", 2, desk.check(0, 14, 22));
        due("28: all are lacking", 0, desk.check(0));
        due("28: the tape is empty by 0, too", 0, desk.x.count(3));
        due("28: 0 of an empty tape", 0, desk.x.check(0, 0));
        due("28: eight", -1, desk.check(1, 0, 1, 2, 3, 4, 5, 6, 7));
        desk.tape("abc");
        int[][] none = {{2, 1}, {-1, 1}, {0, 9}, {0, -1}, {0, 6}};
        for (int[] n : none) {
            due("28: no such ones", -2, desk.x.check(n[0], n[1]));
        }
        due("28: the tape stays", 20, desk.x.count(3));
        desk.x.law(1);
        desk.x.bar(0, true);
        due("28: BARRED ones, too", -1, desk.check(0, 14, 22, 11));
    }

    private static void count() {
        Desk desk = deskOf("owl a");
        desk.x.know(1, 7);
        desk.x.bar(0, true);
        desk.law("n(0=1);c1(0=0)");
        desk.tape("q");
        desk.x.seed(77);
        desk.x.speak(0);
        int[] dues = {2, 1, 2, 20, 77, 0, -1};
        for (int what = 0; what < dues.length; what++) {
            due("29: count " + what, dues[what], desk.x.count(what));
        }
        int[][] more = {{20, 3}, {21, 1}, {22, -1}, {59, -1}, {60, 50}, {61, 7}, {62, -1}, {99, -1}, {100, 0}, {101, 1}, {102, -1},
            {139, -1}, {140, -1}, {19, -1}, {-1, -1}, {Integer.MAX_VALUE, -1}, {Integer.MIN_VALUE, -1}};
        for (int[] m : more) {
            due("29: count " + m[0], m[1], desk.x.count(m[0]));
        }
        Desk full = new Desk();
        for (int i = 0; i < 40; i++) {
            full.word("" + (char) ('a' + i % 26) + (char) ('a' + i / 26), 60 + i % 30, 1);
        }
        due("29: the length of the last", 2, full.x.count(59));
        due("29: how well it is KNOWN", 69, full.x.count(99));
        due("29: whether it is USED", 1, full.x.count(139));
        due("29: 140", -1, full.x.count(140));
    }
}
