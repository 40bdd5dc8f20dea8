/**
 * The sentences of promises 1 to 6, 25 and 27 to 29, and of the Terms on WORDS, that name a bound: each
 * with the last one that is allowed, the first one that is not, and what later calls show of a refused one.
 */
public final class WordsBoundsTest {
    private static final int MIN = Integer.MIN_VALUE;
    private static final int MAX = Integer.MAX_VALUE;

    private WordsBoundsTest() {
    }

    public static void main(String[] args) {
        newObject();
        ownMemory();
        lastCall();
        feedInTwenties();
        feedHighestFirst();
        feedFull();
        wordLengths();
        wordEmptiesTheTape();
        wordNumbers();
        wordLetters();
        wordAlike();
        wordKnown();
        wordTongues();
        wordOfForty();
        wordOfTooFew();
        wordRefusedFirst();
        barAtFirst();
        barSo();
        barWords();
        barredIsNotUsed();
        knowLevels();
        knowWords();
        knowIsSeen();
        speakTongues();
        speakUsed();
        seedBounds();
        offLast();
        offLeavesTheRest();
        checkRight();
        checkFirstWrong();
        checkFourBytes();
        checkTooMany();
        checkTooFew();
        checkNumbers();
        checkTape();
        countState();
        countOfWords();
        countOfForty();
        countOthers();
        wordsTold();
        Desk.end();
    }

    private static void sentence(String says) {
        Desk.sentence(says);
    }

    private static void due(String what, long want, long got) {
        Desk.due(what, want, got);
    }

    private static void due(String what, boolean want, boolean got) {
        Desk.due(what, want, got);
    }

    // ---- 1

    private static void newObject() {
        sentence("The constants: NONE = -1");
        due("NONE", -1, LetterHeaps.NONE);
        sentence("1: No WORDS");
        LetterHeaps x = new LetterHeaps();
        due("WORDS", 0, x.count(0));
        due("USED WORDS", 0, x.count(1));
        due("heap 0", -1, x.heap(0));
        due("HEAPS", 0, x.heaps());
        due("off", -1, x.off());
        sentence("1: no LAW (each CHANGE may be, at a COST of 1)");
        due("CLAUSES", 0, x.count(2));
        Desk desk = Desk.of("abc abd abcc bc bac");
        for (int to = 1; to < 5; to++) {
            due("COST from 0 to " + to, 1, desk.x.step(0, to, 0));
        }
        sentence("1: all TONGUES SPOKEN");
        due("the TONGUE", -1, x.count(5));
        Desk tongues = new Desk();
        for (int bits = 1; bits <= 15; bits++) {
            tongues.word("q" + (char) ('a' + bits), 0, bits);
            due("USED WORDS", bits, tongues.x.count(1));
        }
        sentence("1: THE SEED 1");
        due("X", 1, x.count(4));
        Desk two = Desk.of("a b");
        two.x.draw(0, 1, 0);
        due("X then", 25173 + 13849, two.x.count(4));
        sentence("1: nothing on the tape");
        due("bytes", 0, x.count(3));
        due("fed", 20, x.feed(0, 0, 0, 0, 0));
    }

    private static void ownMemory() {
        sentence("All memory is the tongue's own");
        Desk one = Desk.of("ab ac");
        Desk other = Desk.of("xyz");
        String before = other.state();
        one.law("c7(0=0)");
        one.x.bar(0, true);
        one.x.know(1, 3);
        one.x.seed(99);
        one.x.speak(2);
        one.x.draw(1, 5, 0);
        one.tape("abcd");
        one.x.off();
        Desk.due("the other object", before, other.state());
        due("the one object's tape", 20, one.x.count(3));
        due("the other one's", 0, other.x.count(3));
    }

    private static void lastCall() {
        sentence("An object is used for at most 512 calls");
        LetterHeaps x = new LetterHeaps();
        x.feed(0x61620000, 0, 0, 0, 0);
        x.word(2, 1, 1);
        x.feed(0x61630000, 0, 0, 0, 0);
        x.word(2, 1, 1);
        for (int call = 5; call < 512; call += 3) {
            due("know, call " + call, true, x.know(0, call % 100));
            due("newWord, call " + (call + 1), 2, x.newWord(1));
            due("step, call " + (call + 2), 1, x.step(0, 1, 0));
        }
        due("the 512th", 509 % 100, x.count(60));
    }

    // ---- 2

    private static void feedInTwenties() {
        sentence("2: Twenty bytes come behind the tape: how many it has");
        LetterHeaps x = new LetterHeaps();
        for (int fed = 20; fed <= 200; fed += 20) {
            due("feed", fed, x.feed(fed, fed, fed, fed, fed));
            due("bytes", fed, x.count(3));
        }
        Desk desk = Desk.of("tuvwxyz");
        int t = 't' - 'a';
        desk.x.feed(t, t + 1, t + 2, t + 3, t + 4);
        desk.x.feed(t + 5, t + 6, 0, 0, 0);
        due("the second twenty stand behind the first", -1, desk.x.check(0, 7));
    }

    private static void feedHighestFirst() {
        sentence("2: the highest of each int first");
        Desk desk = new Desk();
        desk.x.feed(0x61626364, 0x65666768, 0x696a6b6c, 0x6d6e6f70, 0x71727374);
        due("8 of the bytes", 0, desk.x.word(8, 0, 1));
        int[] row = {0, 1, 2, 3, 4, 5, 6, 7};
        due("their order", -1, desk.check(0, row));
        desk.x.feed(0x61626364, 0x65666768, 0x696a6b6c, 0x6d6e6f70, 0x71727374);
        due("12 of them: how far is abcdefgh", 4, desk.x.near(12, 0));
        desk.x.feed(0xe1000000, 0, 0, 0, 0);
        due("a byte above 127 is no LETTER", -2, desk.x.word(1, 0, 1));
        desk.x.feed(0x6161e161, 0, 0, 0, 0);
        due("nor further on", -2, desk.x.word(3, 0, 1));
        desk.x.feed(0x7affffff, -1, -1, -1, -1);
        due("what stands ahead of such bytes is read as it is", 1, desk.x.word(1, 0, 1));
        Desk all = Desk.of("a");
        all.x.feed(0x6e28303d, 0x30293b63, 0x35283d00, 0, 0);
        due("a FAULT in the third int", -1010, all.x.law(20));
        all.x.feed(0x6e28303d, 0x30293b63, 0x35283d30, 0x293b6e28, 0x6b3d307c);
        due("a FAULT at the end", -1010, all.x.law(20));
        all.x.feed(0x6e28303d, 0x30293b63, 0x3528303d, 0x30293b6e, 0x28303d7c);
        due("a FAULT at the last byte", -1019, all.x.law(20));
    }

    private static void feedFull() {
        sentence("2: NONE if that would be more than 200");
        Desk desk = new Desk();
        desk.tape("abcdefgh");
        desk.fillTape(180);
        due("the tenth", 200, desk.x.feed(0, 0, 0, 0, 0));
        for (int i = 0; i < 3; i++) {
            due("one more", -1, desk.x.feed(0x7a7a7a7a, 0, 0, 0, 0));
            due("the tape stays", 200, desk.x.count(3));
        }
        due("its first bytes, too", 0, desk.x.word(8, 0, 1));
        due("they are these", -1, desk.check(0, 0, 1, 2, 3, 4, 5, 6, 7));
        due("once it is empty it takes again", 20, desk.x.feed(0, 0, 0, 0, 0));
        desk.x.law(1);
        desk.fillTape(200);
        desk.x.feed(1, 1, 1, 1, 1);
        due("200 are taken as 20 are", -1000, desk.x.law(160));
        due("and empty then", 0, desk.x.count(3));
    }

    // ---- 3

    private static void wordLengths() {
        sentence("3: the first n bytes of the tape (1 to 8)");
        String row = "abcdefgh";
        for (int n = 1; n <= 8; n++) {
            Desk desk = new Desk();
            desk.tape(row);
            due("n = " + n, 0, desk.x.word(n, 0, 1));
            due("its length", n, desk.x.count(20));
            int[] letters = new int[n];
            for (int i = 0; i < n; i++) {
                letters[i] = i;
            }
            due("its LETTERS", -1, desk.check(0, letters));
        }
        Desk desk = new Desk();
        desk.tape(row + "i");
        for (int n : new int[] {0, 9, -1, 20, MIN, MAX}) {
            due("n = " + n, -1, desk.x.word(n, 0, 1));
            due("the tape stays", 20, desk.x.count(3));
            due("no WORD comes", 0, desk.x.count(0));
        }
        due("it is read then", 0, desk.x.word(8, 0, 1));
    }

    private static void wordEmptiesTheTape() {
        sentence("3: empty then");
        Desk desk = new Desk();
        for (int bytes = 20; bytes <= 200; bytes += 20) {
            desk.tape("a" + (char) ('a' + bytes / 20));
            desk.fillTape(bytes);
            due("of " + bytes + " bytes", bytes / 20 - 1, desk.x.word(2, 0, 1));
            due("none is left", 0, desk.x.count(3));
        }
        desk.tape("ab1");
        desk.fillTape(60);
        due("by -2, too", -2, desk.x.word(3, 0, 1));
        due("none is left", 0, desk.x.count(3));
        due("so there are not so many", -1, desk.x.word(1, 0, 1));
    }

    private static void wordNumbers() {
        sentence("3: its number; WORDS 0 to 39");
        Desk desk = new Desk();
        for (int w = 0; w < 40; w++) {
            due("WORD " + w, w, desk.word(Desk.chainRow(w), w, 1 + w % 15));
        }
        due("40 are there", 40, desk.x.count(0));
        desk.x.off();
        desk.x.off();
        due("the number of one that was taken off comes again", 38, desk.word("x", 0, 1));
        due("and the one behind it", 39, desk.word("y", 0, 1));
    }

    private static void wordLetters() {
        sentence("3: -2: a byte that is no LETTER (a to z)");
        Desk desk = new Desk();
        int came = 0;
        for (int at = 0; at < 3; at++) {
            for (int b : new int[] {0, '?', 'A', 'Z', 96, 97, 122, 123, 128 + 97, 128 + 122, 255}) {
                StringBuilder row = new StringBuilder("qmx");
                row.setCharAt(at, (char) b);
                boolean is = b == 97 || b == 122;
                due("byte " + b + " at " + at, is ? came : -2, desk.word(row.toString(), 0, 1));
                came += is ? 1 : 0;
                due("WORDS", came, desk.x.count(0));
                due("the tape is empty then", 0, desk.x.count(3));
            }
        }
        for (int b = 0; b < 256; b++) {
            Desk one = new Desk();
            boolean is = b >= 'a' && b <= 'z';
            due("byte " + b + " alone", is ? 0 : -2, one.word(Desk.list(b), 0, 1));
            due("LETTER " + (b - 'a'), is ? -1 : -2, one.check(0, b - 'a'));
        }
        desk.tape("qqqqqqq{");
        due("of the first n alone", came, desk.x.word(7, 0, 1));
        due("the eighth of eight", -2, desk.word("qqqqqqr{", 0, 1));
    }

    private static void wordAlike() {
        sentence("no two alike; 3: -2: it is a WORD");
        Desk desk = new Desk();
        String row = "aaaaaaaa";
        for (int n = 1; n <= 8; n++) {
            due("a row of like LETTERS, " + n, n - 1, desk.word(row.substring(0, n), 0, 1));
        }
        for (int n = 1; n <= 8; n++) {
            due("it is a WORD, " + n, -2, desk.word(row.substring(0, n), 9, 2));
        }
        due("another order is another row", 8, desk.word("ab", 0, 1));
        due("the other way", 9, desk.word("ba", 0, 1));
        desk.x.bar(8, true);
        due("a BARRED one is a WORD", -2, desk.word("ab", 0, 1));
        desk.x.speak(3);
        due("one of another TONGUE, too", -2, desk.word("ba", 0, 8));
        due("it stays as it was KNOWN", 0, desk.x.count(69));
        due("WORDS", 10, desk.x.count(0));
        desk.x.off();
        due("what was taken off is none", 9, desk.word("ba", 0, 8));
    }

    private static void wordKnown() {
        sentence("3: KNOWN so well (0 to 99), NONE: no such ones");
        Desk desk = new Desk();
        desk.tape("ab");
        for (int known : new int[] {-1, 100, MIN, MAX}) {
            due("KNOWN " + known, -1, desk.x.word(2, known, 1));
            due("the tape stays", 20, desk.x.count(3));
        }
        due("no WORD came", 0, desk.x.count(0));
        due("KNOWN 0", 0, desk.x.word(2, 0, 1));
        due("it is", 0, desk.x.count(60));
        due("KNOWN 99", 1, desk.word("ac", 99, 1));
        due("it is", 99, desk.x.count(61));
    }

    private static void wordTongues() {
        sentence("3: of some TONGUES (bits 1 to 15), NONE: no such ones");
        Desk desk = new Desk();
        desk.tape("ab");
        for (int tongues : new int[] {0, 16, -1, 17, 31, MIN, MAX}) {
            due("TONGUES " + tongues, -1, desk.x.word(2, 0, tongues));
            due("the tape stays", 20, desk.x.count(3));
        }
        due("no WORD came", 0, desk.x.count(0));
        due("TONGUES 1", 0, desk.x.word(2, 0, 1));
        due("TONGUES 15", 1, desk.word("ac", 0, 15));
    }

    private static void wordOfForty() {
        sentence("3: NONE: 40 are there (the tape stays)");
        Desk desk = Desk.chain(39);
        due("the 40th", 39, desk.word("new", 0, 1));
        desk.tape("more");
        due("the 41st", -1, desk.x.word(4, 0, 1));
        due("the tape stays", 20, desk.x.count(3));
        due("40 WORDS", 40, desk.x.count(0));
        due("one is taken off", 3, desk.x.off());
        due("then it comes, from the tape that stayed", 39, desk.x.word(4, 0, 1));
        due("of four LETTERS", 4, desk.x.count(59));
    }

    private static void wordOfTooFew() {
        sentence("3: NONE: it has not so many (the tape stays)");
        Desk desk = new Desk();
        for (int n = 1; n <= 8; n++) {
            due("n = " + n + " of an empty tape", -1, desk.x.word(n, 0, 1));
            due("it stays", 0, desk.x.count(3));
        }
        desk.tape("abcdefgh");
        due("8 of 20", 0, desk.x.word(8, 0, 1));
    }

    private static void wordRefusedFirst() {
        sentence("Where several of these fit one call NONE is told first (3)");
        Desk desk = Desk.of("ab");
        int[][] calls = {{0, 0, 1}, {9, 0, 1}, {2, 100, 1}, {2, 0, 16}};
        for (String text : new String[] {"ab", "a{"}) {
            desk.tape(text);
            for (int[] c : calls) {
                due("ahead of -2 of " + text, -1, desk.x.word(c[0], c[1], c[2]));
                due("the tape stays", 20, desk.x.count(3));
            }
            due("-2 of it else", -2, desk.x.word(2, 0, 1));
        }
        Desk full = Desk.chain(40);
        due("40 are there, ahead of one that is a WORD", -1, full.word(Desk.chainRow(7), 0, 1));
        due("the tape stays", 20, full.x.count(3));
    }

    // ---- 4

    private static void barAtFirst() {
        sentence("BARRED or not (at first not)");
        Desk desk = Desk.of("ab ac");
        due("not to be BARRED: it is so", false, desk.x.bar(1, false));
        due("USED", 1, desk.x.count(101));
        desk.x.bar(1, true);
        desk.x.off();
        desk.words("ac");
        due("the same row once more: it is so, too", false, desk.x.bar(1, false));
        due("USED", 1, desk.x.count(101));
    }

    private static void barSo() {
        sentence("4: true; false: it is so");
        Desk desk = Desk.of("ab ac ad");
        for (int turn = 0; turn < 3; turn++) {
            due("BARRED", true, desk.x.bar(1, true));
            due("not USED", 0, desk.x.count(101));
            due("it is so", false, desk.x.bar(1, true));
            due("it stays so", 0, desk.x.count(101));
            due("not BARRED", true, desk.x.bar(1, false));
            due("USED", 1, desk.x.count(101));
            due("it is so", false, desk.x.bar(1, false));
            due("it stays so", 1, desk.x.count(101));
        }
        due("the others are as they were", 3, desk.x.count(1));
    }

    private static void barWords() {
        sentence("4: false: no such WORD");
        Desk desk = Desk.of("ab ac");
        String before = desk.state();
        for (int w : new int[] {-1, 2, 39, 40, 64, MIN, MAX}) {
            due("WORD " + w, false, desk.x.bar(w, true));
            due("WORD " + w, false, desk.x.bar(w, false));
        }
        Desk.due("it changes nothing", before, desk.state());
        due("the last one", true, desk.x.bar(1, true));
        due("the first one", true, desk.x.bar(0, true));
        Desk full = Desk.chain(40);
        due("40 of 40", false, full.x.bar(40, true));
        due("39 of 40", true, full.x.bar(39, true));
        due("USED", 39, full.x.count(1));
        full.x.off();
        due("39 of 39", false, full.x.bar(39, true));
    }

    private static void barredIsNotUsed() {
        sentence("USED are WORDS that are not BARRED and of that TONGUE");
        Desk desk = new Desk();
        desk.word("ab", 0, 1);
        desk.word("ac", 0, 2);
        desk.word("ad", 0, 3);
        desk.x.bar(2, true);
        int[][] used = {{1, 1, 0}, {1, 0, 0}, {0, 1, 0}, {0, 0, 0}};
        for (int tongue = -1; tongue < 3; tongue++) {
            desk.x.speak(tongue);
            for (int w = 0; w < 3; w++) {
                due("WORD " + w + " by TONGUE " + tongue, used[tongue + 1][w], desk.x.count(100 + w));
            }
        }
        desk.x.bar(2, false);
        desk.x.speak(0);
        due("not BARRED, of the TONGUE", 1, desk.x.count(102));
        desk.x.speak(2);
        due("not BARRED, of other TONGUES", 0, desk.x.count(102));
    }

    // ---- 5

    private static void knowLevels() {
        sentence("5: How well a WORD is KNOWN (0 to 99); false: no such ones");
        Desk desk = Desk.of("ab");
        due("0", true, desk.x.know(0, 0));
        due("it is", 0, desk.x.count(60));
        due("99", true, desk.x.know(0, 99));
        due("it is", 99, desk.x.count(60));
        for (int n : new int[] {-1, 100, MIN, MAX}) {
            due("" + n, false, desk.x.know(0, n));
            due("it stays", 99, desk.x.count(60));
        }
        due("the same once more", true, desk.x.know(0, 99));
    }

    private static void knowWords() {
        sentence("5: false: no such ones");
        Desk desk = Desk.of("ab ac");
        String before = desk.state();
        for (int w : new int[] {-1, 2, 39, 40, MIN, MAX}) {
            due("WORD " + w, false, desk.x.know(w, 7));
        }
        Desk.due("it changes nothing", before, desk.state());
        due("the last one", true, desk.x.know(1, 7));
        due("it is", 7, desk.x.count(61));
        due("the other one stays", 50, desk.x.count(60));
        desk.x.bar(1, true);
        due("a BARRED one, too", true, desk.x.know(1, 8));
        due("it is", 8, desk.x.count(61));
        desk.x.off();
        due("one that was taken off", false, desk.x.know(1, 8));
        Desk full = Desk.chain(40);
        due("39 of 40", true, full.x.know(39, 1));
        due("40 of 40", false, full.x.know(40, 1));
    }

    private static void knowIsSeen() {
        sentence("5: How well a WORD is KNOWN (by THE LAW, at once)");
        Desk desk = Desk.of("ab ac");
        desk.law("cf(a=0);cg(a=1)");
        for (int n = 1; n < 99; n += 7) {
            due("know 0", true, desk.x.know(0, n));
            due("COST of 0 to 1", n, desk.x.step(0, 1, 0));
            due("LEAST of 1 to 0", n, desk.x.least(1, 0, -1));
        }
        due("know 1", true, desk.x.know(1, 50));
        due("of the other one", 92, desk.x.step(1, 0, 0));
        due("refused", false, desk.x.know(0, 100));
        due("it stays", 92, desk.x.step(1, 0, 0));
    }

    // ---- 6

    private static void speakTongues() {
        sentence("6: SPOKEN is a TONGUE (0 to 3) or all (NONE); false: no such one");
        Desk desk = Desk.of("ab");
        for (int tongue = -1; tongue < 4; tongue++) {
            due("TONGUE " + tongue, true, desk.x.speak(tongue));
            due("it is", tongue, desk.x.count(5));
            for (int none : new int[] {-2, 4, MIN, MAX}) {
                due("TONGUE " + none, false, desk.x.speak(none));
                due("it stays", tongue, desk.x.count(5));
                due("USED", tongue < 1 ? 1 : 0, desk.x.count(1));
            }
            due("the same once more", true, desk.x.speak(tongue));
        }
    }

    private static void speakUsed() {
        sentence("USED: of that TONGUE (bits 1 to 15)");
        Desk desk = new Desk();
        for (int bits = 1; bits <= 15; bits++) {
            desk.word("q" + (char) ('a' + bits), 0, bits);
        }
        for (int tongue = 0; tongue < 4; tongue++) {
            desk.x.speak(tongue);
            due("USED by TONGUE " + tongue, 8, desk.x.count(1));
            for (int bits = 1; bits <= 15; bits++) {
                due("bits " + bits + " by TONGUE " + tongue, bits >> tongue & 1, desk.x.count(99 + bits));
            }
        }
        desk.x.speak(-1);
        due("all", 15, desk.x.count(1));
        desk.x.speak(2);
        due("a WORD that comes now, of another TONGUE", 15, desk.word("zz", 0, 3));
        due("is not USED", 0, desk.x.count(115));
        due("one of it", 16, desk.word("zy", 0, 4));
        due("is", 1, desk.x.count(116));
    }

    // ---- 25

    private static void seedBounds() {
        sentence("25: THE SEED (0 to 65535; X, too): true; false: no such number");
        LetterHeaps x = new LetterHeaps();
        for (int seed : new int[] {0, 1, 65534, 65535}) {
            due("seed " + seed, true, x.seed(seed));
            due("X", seed, x.count(4));
            for (int none : new int[] {-1, 65536, MIN, MAX}) {
                due("seed " + none, false, x.seed(none));
                due("X stays", seed, x.count(4));
            }
            due("the same once more", true, x.seed(seed));
        }
        Desk desk = Desk.of("a b");
        desk.x.seed(9);
        desk.x.draw(0, 3, 0);
        due("after draws", true, desk.x.seed(9));
        due("X is THE SEED", 9, desk.x.count(4));
    }

    // ---- 27

    private static void offLast() {
        sentence("27: the last WORD: how many LETTERS it had; NONE: no WORDS");
        Desk desk = new Desk();
        String row = "abcdefgh";
        for (int n = 1; n <= 8; n++) {
            desk.words(row.substring(0, n));
        }
        desk.x.bar(7, true);
        desk.x.speak(3);
        for (int n = 8; n >= 1; n--) {
            due("off", n, desk.x.off());
            due("WORDS", n - 1, desk.x.count(0));
            due("its number is none", -1, desk.x.count(19 + n));
        }
        for (int i = 0; i < 2; i++) {
            due("no WORDS", -1, desk.x.off());
            due("WORDS", 0, desk.x.count(0));
        }
        due("a WORD comes as before", 0, desk.word("ab", 3, 8));
        due("it is USED", 1, desk.x.count(100));
    }

    private static void offLeavesTheRest() {
        sentence("27: TAKEN OFF is the last WORD (alone)");
        Desk desk = new Desk();
        desk.word("aa", 1, 1);
        desk.word("ab", 2, 2);
        desk.word("abb", 3, 15);
        desk.word("bb", 4, 15);
        desk.x.bar(0, true);
        desk.law("c7(a=2)");
        desk.x.seed(5);
        desk.x.speak(1);
        desk.tape("q");
        due("off", 2, desk.x.off());
        int[] counts = {3, 2, 1, 20, 5, 1};
        for (int what = 0; what < 6; what++) {
            due("count " + what, counts[what], desk.x.count(what));
        }
        for (int w = 0; w < 3; w++) {
            due("KNOWN", w + 1, desk.x.count(60 + w));
        }
        due("COST by the LAW", 7, desk.x.step(2, 1, 0));
        due("the BARRED one is so", false, desk.x.bar(0, true));
        due("from what is gone", -1, desk.x.step(3, 2, 0));
        due("the tape is there to be read", -1000, desk.x.law(1));
        due("other LETTERS in its place", 3, desk.word("abbc", 6, 15));
        due("its STEPS are its own", -2, desk.x.step(3, 1, 0));
        due("and those to it", 7, desk.x.step(2, 3, 0));
        due("its KIND", 1, desk.x.step(2, 3, 1));
        due("how well it is KNOWN", 6, desk.x.count(63));
    }

    // ---- 28

    private static int[] letters(String row) {
        int[] all = new int[row.length()];
        for (int i = 0; i < all.length; i++) {
            all[i] = row.charAt(i) - 'a';
        }
        return all;
    }

    private static void checkRight() {
        sentence("28: NONE: right");
        String row = "azbycxdw";
        for (int n = 1; n <= 8; n++) {
            Desk desk = Desk.of(row.substring(0, n));
            due(n + " LETTERS", -1, desk.check(0, letters(row.substring(0, n))));
            due("the tape is empty then", 0, desk.x.count(3));
            due("the same once more", -1, desk.check(0, letters(row.substring(0, n))));
            desk.x.bar(0, true);
            due("of one that is not USED", -1, desk.check(0, letters(row.substring(0, n))));
        }
    }

    private static void checkFirstWrong() {
        sentence("28: the place of the first number that is not so");
        Desk desk = Desk.of("azbycxdw");
        for (int place = 0; place < 8; place++) {
            int[] one = letters("azbycxdw");
            one[place] = (one[place] + 1) % 26;
            due("place " + place, place, desk.check(0, one));
            due("the tape is empty then", 0, desk.x.count(3));
            for (int behind = place; behind < 8; behind++) {
                one[behind] = 77;
            }
            due("and all behind it", place, desk.check(0, one));
        }
        due("one below", 1, desk.check(0, 0, 24));
        due("the byte of the LETTER is not its number", 0, desk.check(0, 'a'));
    }

    private static void checkFourBytes() {
        sentence("28: four bytes each");
        Desk desk = Desk.of("bz");
        for (int shift = 5; shift < 32; shift++) {
            due("bit " + shift + " more", 0, desk.check(0, 1 | 1 << shift, 25));
            due("bit " + shift + " more in the second", 1, desk.check(0, 1, 25 | 1 << shift));
        }
        due("-1", 0, desk.check(0, -1, 25));
        due("25 in the second", -1, desk.check(0, 1, 25));
    }

    private static void checkTooMany() {
        sentence("28: the length, if n is above it");
        Desk desk = Desk.of("a owl abcdefg");
        due("2 of 1", 1, desk.check(0, 0, 0));
        due("8 of 1", 1, desk.check(0, 0, 0, 0, 0, 0, 0, 0, 0));
        due("4 of 3", 3, desk.check(1, 14, 22, 11, 0));
        due("8 of 3", 3, desk.check(1, 14, 22, 11, 9, 9, 9, 9, 9));
        due("8 of 7", 7, desk.check(2, 0, 1, 2, 3, 4, 5, 6, 7));
        due("but 7 of 7", -1, desk.check(2, 0, 1, 2, 3, 4, 5, 6));
        due("one that is not so stands ahead of it", 2, desk.check(1, 14, 22, 12, 0));
        due("the tape is empty then", 0, desk.x.count(3));
    }

    private static void checkTooFew() {
        sentence("28: n, if some are lacking");
        Desk desk = Desk.of("abcdefgh a");
        int[] all = letters("abcdefgh");
        for (int n = 1; n < 8; n++) {
            due(n + " of 8", n, desk.check(0, java.util.Arrays.copyOf(all, n)));
            due("the tape is empty then", 0, desk.x.count(3));
        }
        due("0 of 8", 0, desk.x.check(0, 0));
        due("0 of 1", 0, desk.x.check(1, 0));
        desk.tape("q");
        due("0 of 8 with bytes there", 0, desk.x.check(0, 0));
        due("empty then", 0, desk.x.count(3));
        due("one that is not so stands ahead of it", 1, desk.check(0, 0, 2, 2));
    }

    private static void checkNumbers() {
        sentence("28: n (0 to 8); -2: no such ones (the tape stays)");
        Desk desk = Desk.of("abcdefgh");
        desk.tape(Desk.list(0, 0, 0, 0, 0, 0, 0, 1, 0, 0, 0, 2, 0, 0, 0, 3, 0, 0, 0, 4, 0, 0, 0, 5, 0, 0, 0, 6, 0, 0, 0, 7));
        for (int n : new int[] {-1, 9, 10, MIN, MAX, 1 << 30, 1 << 31 | 8}) {
            due("n = " + n, -2, desk.x.check(0, n));
            due("the tape stays", 40, desk.x.count(3));
        }
        for (int w : new int[] {-1, 1, 40, MIN, MAX}) {
            due("WORD " + w, -2, desk.x.check(w, 8));
            due("the tape stays", 40, desk.x.count(3));
        }
        due("8 of WORD 0", -1, desk.x.check(0, 8));
        Desk full = Desk.chain(40);
        due("WORD 39", -1, full.check(39, letters(Desk.chainRow(39))));
        due("WORD 40", -2, full.check(40, 0));
        due("the tape stays", 20, full.x.count(3));
    }

    private static void checkTape() {
        sentence("28: -2: it has not so many (the tape stays)");
        Desk desk = Desk.of("aaaaaa");
        due("1 of an empty tape", -2, desk.x.check(0, 1));
        desk.x.feed(0, 0, 0, 0, 0);
        due("6 numbers of 20 bytes", -2, desk.x.check(0, 6));
        due("the tape stays", 20, desk.x.count(3));
        due("5 of 20", 5, desk.x.check(0, 5));
        due("empty then", 0, desk.x.count(3));
        desk.x.feed(0, 0, 0, 0, 0);
        due("6 of 20 again", -2, desk.x.check(0, 6));
        desk.x.feed(0, 1, 1, 1, 1);
        due("6 of 40", -1, desk.x.check(0, 6));
    }

    // ---- 29

    private static void countState() {
        sentence("29: 0 WORDS, 1 USED WORDS, 2 CLAUSES, 3 bytes of the tape, 4 X, 5 the TONGUE (NONE: all)");
        Desk desk = new Desk();
        for (int i = 0; i < 12; i++) {
            desk.word("q" + (char) ('a' + i), 0, 1);
            due("WORDS", i + 1, desk.x.count(0));
        }
        for (int i = 0; i < 12; i++) {
            desk.x.bar(i, true);
            due("WORDS, BARRED ones too", 12, desk.x.count(0));
            due("USED ones", 11 - i, desk.x.count(1));
        }
        StringBuilder law = new StringBuilder("n(0=1)");
        for (int i = 1; i <= 12; i++) {
            desk.law(law.toString());
            due("CLAUSES", i, desk.x.count(2));
            law.append(";c1(0=0)");
        }
        due("no bytes", 0, desk.x.count(3));
        for (int bytes = 20; bytes <= 200; bytes += 20) {
            desk.tape("q");
            due("bytes", bytes, desk.x.count(3));
        }
        desk.x.seed(65535);
        due("X", 65535, desk.x.count(4));
        desk.x.speak(0);
        due("the TONGUE", 0, desk.x.count(5));
        desk.x.speak(3);
        due("the TONGUE", 3, desk.x.count(5));
        desk.x.speak(-1);
        due("all", -1, desk.x.count(5));
    }

    private static void countOfWords() {
        sentence("29: 20 + w, 60 + w, 100 + w; NONE for others (no such WORD)");
        Desk desk = new Desk();
        for (int words = 0; words < 3; words++) {
            for (int w = 0; w < 3; w++) {
                due("length of " + w + " of " + words, w < words ? w + 1 : -1, desk.x.count(20 + w));
                due("KNOWN " + w + " of " + words, w < words ? 90 + w : -1, desk.x.count(60 + w));
                due("USED " + w + " of " + words, w < words ? w % 2 : -1, desk.x.count(100 + w));
            }
            desk.word("abc".substring(0, words + 1), 90 + words, 1);
            desk.x.bar(words, words % 2 == 0);
        }
        desk.x.off();
        due("length of what was taken off", -1, desk.x.count(22));
        due("KNOWN", -1, desk.x.count(62));
        due("USED", -1, desk.x.count(102));
    }

    private static void countOfForty() {
        sentence("29: w of 0 to 39");
        Desk desk = new Desk();
        for (int w = 0; w < 40; w++) {
            desk.word(w == 39 ? "abcdefgh" : Desk.chainRow(w), w, w == 39 ? 1 : 2);
        }
        desk.x.speak(0);
        due("length of 0", 2, desk.x.count(20));
        due("length of 38", 2, desk.x.count(58));
        due("length of 39", 8, desk.x.count(59));
        due("KNOWN 0", 0, desk.x.count(60));
        due("KNOWN 39", 39, desk.x.count(99));
        due("USED 0", 0, desk.x.count(100));
        due("USED 38", 0, desk.x.count(138));
        due("USED 39", 1, desk.x.count(139));
        due("140", -1, desk.x.count(140));
    }

    private static void countOthers() {
        sentence("29: NONE for others");
        Desk desk = Desk.of("ab");
        for (int what = 6; what < 20; what++) {
            due("count " + what, -1, desk.x.count(what));
        }
        for (int what : new int[] {-1, -2, -20, MIN, MAX, 140, 141, 160, 180}) {
            due("count " + what, -1, desk.x.count(what));
        }
        due("20 is one", 2, desk.x.count(20));
        due("5 is one", -1, desk.x.count(5));
        desk.x.speak(1);
        due("5 tells the TONGUE", 1, desk.x.count(5));
    }

    private static void wordsTold() {
        sentence("WORDS 0 to 39: the last one and the first that is none, in each call");
        Desk desk = Desk.chain(40);
        for (int w : new int[] {40, -1, MIN, MAX}) {
            due("step from " + w, -1, desk.x.step(w, 0, 0));
            due("step to " + w, -1, desk.x.step(0, w, 0));
            due("least from " + w, -1, desk.x.least(w, 0, -1));
            due("least to " + w, -1, desk.x.least(0, w, -1));
            due("howMany from " + w, -1, desk.x.howMany(w, 0));
            due("howMany to " + w, -1, desk.x.howMany(0, w));
            due("without from " + w, -1, desk.x.without(w, 0));
            due("without to " + w, -1, desk.x.without(0, w));
            due("heap of " + w, -1, desk.x.heap(w));
            due("walks from " + w, -1, desk.x.walks(w, 0, 1));
            due("walks to " + w, -1, desk.x.walks(0, w, 1));
            due("farBy from " + w, -1, desk.x.farBy(w, 0));
            due("farBy to " + w, -1, desk.x.farBy(0, w));
            due("draw from " + w, -1, desk.x.draw(w, 1, 0));
        }
        due("step", 1, desk.x.step(39, 38, 0));
        due("step", 1, desk.x.step(38, 39, 0));
        due("least", 0, desk.x.least(39, 39, -1));
        due("howMany", 1, desk.x.howMany(39, 39));
        due("without", 0, desk.x.without(39, 38));
        due("heap", 0, desk.x.heap(39));
        due("walks", 1, desk.x.walks(39, 39, 0));
        due("farBy", 1, desk.x.farBy(39, 38));
        due("row", 1, desk.row(-1, 39, 38));
        due("row of one that is none", -3, desk.row(-1, 39, 40));
        due("game", 1, desk.game(0, 39, 38));
        due("game on one that is none", -3, desk.game(0, 40, 39));
        due("clear", 1, desk.clear(2, 0, 38, 39));
        due("clear of one that is none", -3, desk.clear(2, 0, 39, 40));
    }
}
