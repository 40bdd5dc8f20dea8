import java.util.Arrays;

/**
 * Words that become one another by one change at a time, under a law told as a text.
 * The words in capitals are those of the document's Terms.
 */
public final class LetterHeaps {
    /** There is none. */
    public static final int NONE = -1;

    private static final int REFUSED = -2;
    private static final int NOT_TOLD_RIGHT = -3;
    private static final int MOST_WORDS = 40;
    private static final int MOST_LETTERS = 8;
    private static final int ALPHABET = 26;
    private static final int MOST_KNOWN = 99;
    private static final int LAST_TONGUE = 3;
    private static final int ALL_TONGUES = 15;
    private static final int STEPS_ASKED = 40;
    private static final int MOST_WALKED = 10;
    private static final int MOST_IN_ROW = 10;
    private static final int MOST_IN_GAME = 12;
    private static final int MOST_TOLD = 14;
    private static final int MOST_APART = 9;
    private static final int MOST_NEAR_TEXT = 12;
    private static final int LEAST_SQUARE = 2;
    private static final int MOST_SQUARE = 4;
    private static final int MOST_DRAWN = 60;
    private static final int LAST_SEED = 65535;

    private final Tape tape;
    private final Words words;
    private final LawCode law;
    private final LawReader reader;
    private final Steps steps;
    private final Ways ways;
    private final NewWords newWords;
    private final Spelling spelling;
    private final Told told;
    private final Squares squares;
    private int drawn;

    public LetterHeaps() {
        tape = new Tape();
        words = new Words();
        law = new LawCode();
        reader = new LawReader(tape);
        steps = new Steps(words, law);
        ways = new Ways(words, steps);
        newWords = new NewWords(words, steps, ways);
        spelling = new Spelling(words, tape);
        told = new Told(words, tape, steps, spelling);
        squares = new Squares(words);
        drawn = 1;
    }

    public int feed(int a, int b, int c, int d, int e) {
        if (!tape.hasRoom()) {
            return NONE;
        }
        tape.putNumber(a);
        tape.putNumber(b);
        tape.putNumber(c);
        tape.putNumber(d);
        tape.putNumber(e);
        return tape.size;
    }

    public int word(int n, int known, int tongues) {
        boolean fits = n >= 1 && n <= MOST_LETTERS && isKnownLevel(known) && tongues >= 1 && tongues <= ALL_TONGUES;
        if (!fits || words.size >= MOST_WORDS || !tape.take(n)) {
            return NONE;
        }
        if (!tape.isAllLetters()) {
            return REFUSED;
        }
        long key = tape.takenKey();
        if (words.holds(key)) {
            return REFUSED;
        }
        int w = words.add(key, known, tongues);
        steps.joinLast();
        return w;
    }

    public boolean bar(int w, boolean is) {
        return words.has(w) && words.setBarred(w, is);
    }

    public boolean know(int w, int n) {
        if (!words.has(w) || !isKnownLevel(n)) {
            return false;
        }
        words.setKnown(w, n);
        return true;
    }

    public boolean speak(int tongue) {
        if (tongue < NONE || tongue > LAST_TONGUE) {
            return false;
        }
        words.setSpoken(tongue);
        return true;
    }

    public int law(int n) {
        if (n < 1 || n > LawReader.MOST_TEXT || !tape.take(n)) {
            return NONE;
        }
        if (!reader.readText(n)) {
            return -1000 * reader.fault - reader.place;
        }
        law.become(reader.out);
        return law.clauses;
    }

    public int step(int a, int b, int what) {
        if (!areWords(a, b) || what < 0 || what > 2) {
            return NONE;
        }
        steps.refresh();
        if (steps.costOf(a, b) == 0) {
            return REFUSED;
        }
        if (what == 0) {
            return steps.costOf(a, b);
        }
        return what == 1 ? steps.kindOf(a, b) : steps.placeOf(a, b);
    }

    public int least(int a, int b, int what) {
        if (!areWords(a, b) || what < NONE || what > STEPS_ASKED) {
            return NONE;
        }
        steps.refresh();
        ways.refresh();
        if (!ways.isWay(a, b)) {
            return REFUSED;
        }
        if (what == NONE) {
            return ways.costOf(a, b);
        }
        int length = ways.lengthOf(a, b);
        if (what == STEPS_ASKED) {
            return length;
        }
        return what > length ? NONE : ways.wordAt(a, b, what);
    }

    public long howMany(int a, int b) {
        if (!areWords(a, b)) {
            return NONE;
        }
        steps.refresh();
        ways.refresh();
        return ways.isWay(a, b) ? ways.countLeast(a, b) : 0;
    }

    public long without(int a, int b) {
        if (!areWords(a, b)) {
            return NONE;
        }
        steps.refresh();
        ways.refreshReach();
        return ways.reaches(a, b) ? ways.neededBetween(a, b) : REFUSED;
    }

    public int heap(int w) {
        if (!words.has(w)) {
            return NONE;
        }
        if (!words.isUsed(w)) {
            return REFUSED;
        }
        steps.refresh();
        ways.refreshReach();
        return ways.leader[w];
    }

    public int heaps() {
        steps.refresh();
        ways.refreshReach();
        return ways.heapCount;
    }

    public int far(int what) {
        if (what < 0 || what > 2) {
            return NONE;
        }
        steps.refresh();
        ways.refresh();
        if (ways.farFrom == NONE) {
            return REFUSED;
        }
        if (what == 0) {
            return ways.farCost;
        }
        return what == 1 ? ways.farFrom : ways.farTo;
    }

    public int between(int what) {
        if (what < 0 || what > 1) {
            return NONE;
        }
        if (words.used == 0) {
            return REFUSED;
        }
        steps.refresh();
        ways.refresh();
        ways.refreshBusiest();
        return what == 0 ? ways.busiest : ways.busiestTwos;
    }

    public int newWord(int what) {
        boolean isLetter = what >= 10 && what < 10 + MOST_LETTERS;
        if (!isLetter && (what < 0 || what > 2)) {
            return NONE;
        }
        if (words.used == 0) {
            return REFUSED;
        }
        steps.refresh();
        ways.refreshReach();
        newWords.refresh();
        if (isLetter) {
            return newWords.letterAt(what - 10);
        }
        if (what == 0) {
            return newWords.bestHeaps;
        }
        return what == 1 ? newWords.bestWords : Words.lengthOfKey(newWords.bestKey);
    }

    public long walks(int a, int b, int n) {
        if (!areWords(a, b) || n < 0 || n > MOST_WALKED) {
            return NONE;
        }
        if (!words.isUsed(a) || !words.isUsed(b)) {
            return 0;
        }
        steps.refresh();
        return ways.countWalks(a, b, n);
    }

    public int row(int n, int what) {
        if (n < 2 || n > MOST_IN_ROW || what < NONE || what >= n || !tape.take(n)) {
            return NONE;
        }
        if (!told.readWords(n) || !told.areUsed()) {
            return NOT_TOLD_RIGHT;
        }
        steps.refresh();
        if (!told.findRow()) {
            return REFUSED;
        }
        return what == NONE ? told.rowCost : told.rowWordAt(what);
    }

    public int game(int n, int what) {
        if (n < 2 || n > MOST_IN_GAME || what < 0 || what > 1 || !tape.take(n)) {
            return NONE;
        }
        if (!told.readWords(n) || !told.areUsed()) {
            return NOT_TOLD_RIGHT;
        }
        steps.refresh();
        int winner = told.winningWord();
        if (what == 1) {
            return winner == NONE ? REFUSED : winner;
        }
        return winner == NONE ? 0 : 1;
    }

    public int farBy(int a, int b) {
        return areWords(a, b) ? spelling.apart(a, b) : NONE;
    }

    public int near(int n, int what) {
        if (n < 1 || n > MOST_NEAR_TEXT || what < 0 || what > 2 || !tape.take(n)) {
            return NONE;
        }
        if (words.used == 0 || !tape.isAllLetters()) {
            return REFUSED;
        }
        spelling.findNearest(n);
        if (what == 0) {
            return spelling.nearestFar;
        }
        return what == 1 ? spelling.nearestWord : spelling.nearestCount;
    }

    public int clear(int n, int d, int what) {
        boolean fits = n >= 1 && n <= MOST_TOLD && d >= 1 && d <= MOST_APART && what >= 0 && what <= 1;
        if (!fits || !tape.take(n)) {
            return NONE;
        }
        if (!told.readWords(n)) {
            return NOT_TOLD_RIGHT;
        }
        int most = told.mostApart(d);
        return what == 0 ? Integer.bitCount(most) : most;
    }

    public long rubbed(int n) {
        if (n < 1 || n > MOST_LETTERS || !tape.take(n)) {
            return NONE;
        }
        return tape.isRubbedText() ? spelling.fitting(n) : REFUSED;
    }

    public int square(int n, int what) {
        if (n < LEAST_SQUARE || n > MOST_SQUARE || what < NONE || what >= n) {
            return NONE;
        }
        squares.refresh(n);
        if (what == NONE) {
            return squares.found;
        }
        return squares.found == 0 ? REFUSED : squares.first[what];
    }

    public boolean seed(int x) {
        if (x < 0 || x > LAST_SEED) {
            return false;
        }
        drawn = x;
        return true;
    }

    public int draw(int w, int n, int what) {
        if (!words.has(w) || n < 1 || n > MOST_DRAWN || what < 0 || what > 1) {
            return NONE;
        }
        if (!words.isUsed(w)) {
            return REFUSED;
        }
        steps.refresh();
        int at = w;
        long seen = 1L << w;
        for (int i = 0; i < n; i++) {
            drawn = (25173 * drawn + 13849) & LAST_SEED;
            at = steps.goneTo(at, drawn);
            seen |= 1L << at;
        }
        return what == 0 ? at : Long.bitCount(seen);
    }

    public int off() {
        return words.size == 0 ? NONE : words.takeLast();
    }

    public int check(int w, int n) {
        if (!words.has(w) || n < 0 || n > MOST_LETTERS || !tape.take(4 * n)) {
            return REFUSED;
        }
        int length = words.length[w];
        for (int i = 0; i < n && i < length; i++) {
            if (tape.numberAt(i) != words.letters[w][i]) {
                return i;
            }
        }
        return n == length ? NONE : Math.min(n, length);
    }

    public int count(int what) {
        switch (what) {
            case 0:
                return words.size;
            case 1:
                return Long.bitCount(words.used);
            case 2:
                return law.clauses;
            case 3:
                return tape.size;
            case 4:
                return drawn;
            case 5:
                return words.spoken;
            default:
                return countOfWord(what);
        }
    }

    private int countOfWord(int what) {
        if (what >= 20 && what < 60) {
            return words.has(what - 20) ? words.length[what - 20] : NONE;
        }
        if (what >= 60 && what < 100) {
            return words.has(what - 60) ? words.known[what - 60] : NONE;
        }
        if (what < 100 || !words.has(what - 100)) {
            return NONE;
        }
        return words.isUsed(what - 100) ? 1 : 0;
    }

    private boolean areWords(int a, int b) {
        return words.has(a) && words.has(b);
    }

    private static boolean isKnownLevel(int n) {
        return n >= 0 && n <= MOST_KNOWN;
    }

    /** The bytes that were fed. What was taken last can be read until the next taking. */
    static final class Tape {
        static final int MOST = 200;
        static final int FED = 20;
        static final int RUBBED_OUT = 63;

        final int[] bytes = new int[MOST];
        int size;
        int taken;

        boolean hasRoom() {
            return size + FED <= MOST;
        }

        void putNumber(int n) {
            for (int shift = 24; shift >= 0; shift -= 8) {
                if (size < MOST) {
                    bytes[size] = (n >>> shift) & 255;
                    size++;
                }
            }
        }

        /** Empties the tape, but only if it has n bytes. */
        boolean take(int n) {
            if (n < 0 || n > size) {
                return false;
            }
            taken = n;
            size = 0;
            return true;
        }

        int byteAt(int i) {
            return i >= 0 && i < taken && i < MOST ? bytes[i] : NONE;
        }

        int numberAt(int i) {
            int number = 0;
            for (int j = 0; j < 4; j++) {
                number = (number << 8) | byteAt(4 * i + j);
            }
            return number;
        }

        int letterAt(int i) {
            return byteAt(i) - 'a';
        }

        boolean isLetterAt(int i) {
            return byteAt(i) >= 'a' && byteAt(i) <= 'z';
        }

        boolean isAllLetters() {
            for (int i = 0; i < taken; i++) {
                if (!isLetterAt(i)) {
                    return false;
                }
            }
            return true;
        }

        boolean isRubbedText() {
            for (int i = 0; i < taken; i++) {
                if (!isLetterAt(i) && byteAt(i) != RUBBED_OUT) {
                    return false;
                }
            }
            return true;
        }

        long takenKey() {
            long key = 0;
            for (int i = 0; i < taken; i++) {
                key = (key << Words.BITS) | letterAt(i);
            }
            return Words.keyOf(key, taken);
        }
    }

    /**
     * The WORDS. A row of LETTERS is also one number, its key: the length on top of five bits a
     * LETTER, so that of two keys the lesser one is the shorter row, then the first by the alphabet.
     */
    static final class Words {
        static final int BITS = 5;
        static final int LENGTH_AT = 40;

        final int[][] letters = new int[MOST_WORDS][MOST_LETTERS];
        final int[] length = new int[MOST_WORDS];
        final long[] keys = new long[MOST_WORDS];
        final int[] known = new int[MOST_WORDS];
        final int[] tongues = new int[MOST_WORDS];
        final boolean[] barred = new boolean[MOST_WORDS];
        int size;
        int spoken = NONE;
        long used;
        /** Goes up with every change, so that what was reckoned from the WORDS knows when it is old. */
        int age;

        static long keyOf(long lettersAlone, int length) {
            return ((long) length << LENGTH_AT) | lettersAlone;
        }

        static int lengthOfKey(long key) {
            return (int) (key >>> LENGTH_AT);
        }

        /** What LETTER stands at a place of a row whose key is told; the place must be in the row. */
        static int letterOfKey(long key, int place) {
            return (int) (key >>> (BITS * (lengthOfKey(key) - 1 - place))) & 31;
        }

        boolean has(int w) {
            return w >= 0 && w < size && w < MOST_WORDS;
        }

        boolean isUsed(int w) {
            return has(w) && ((used >>> w) & 1) != 0;
        }

        boolean holds(long key) {
            for (int w = 0; w < size; w++) {
                if (keys[w] == key) {
                    return true;
                }
            }
            return false;
        }

        int add(long key, int knownAs, int ofTongues) {
            int w = size;
            if (w >= MOST_WORDS) {
                return NONE;
            }
            keys[w] = key;
            length[w] = lengthOfKey(key);
            for (int i = 0; i < length[w] && i < MOST_LETTERS; i++) {
                letters[w][i] = letterOfKey(key, i);
            }
            known[w] = knownAs;
            tongues[w] = ofTongues;
            barred[w] = false;
            size++;
            findUsed();
            return w;
        }

        int takeLast() {
            if (size == 0) {
                return NONE;
            }
            size--;
            findUsed();
            return length[size];
        }

        boolean setBarred(int w, boolean is) {
            if (barred[w] == is) {
                return false;
            }
            barred[w] = is;
            findUsed();
            return true;
        }

        void setKnown(int w, int n) {
            known[w] = n;
            age++;
        }

        void setSpoken(int tongue) {
            spoken = tongue;
            findUsed();
        }

        private void findUsed() {
            int heard = spoken == NONE ? ALL_TONGUES : 1 << spoken;
            used = 0;
            for (int w = 0; w < size; w++) {
                if (!barred[w] && (tongues[w] & heard) != 0) {
                    used |= 1L << w;
                }
            }
            age++;
        }
    }

    /** THE LAW as a row of orders, two numbers each, so that it is read as a text only once. */
    static final class LawCode {
        static final int MOST_CLAUSES = 12;
        static final int MOST_CODE = 400;
        static final int MOST_HELD = 32;
        static final int MOST_COST = 99;

        static final int END = 0;
        static final int NUMBER = 1;
        static final int NAMED = 2;
        static final int NOT = 3;
        static final int LEAP_IF = 4;
        static final int LEAP_UNLESS = 5;

        static final int KIND = 0;
        static final int PLACE = 1;
        static final int GOES = 2;
        static final int COMES = 3;
        static final int LENGTH = 4;
        static final int KNOWN_FROM = 5;
        static final int KNOWN_TO = 6;
        static final int FROM = 7;
        static final int TO = 8;
        static final int NAMES = 9;

        final int[] code = new int[MOST_CODE];
        final int[] costAt = new int[MOST_CLAUSES];
        final int[] conditionAt = new int[MOST_CLAUSES];
        /** What the letters of a FACTOR stand for; whoever asks for a cost sets them first. */
        final int[] named = new int[NAMES];
        final int[] held = new int[MOST_HELD];
        int size;
        int clauses;
        int age;
        int heldCount;
        boolean truth;

        void restart() {
            size = 0;
            clauses = 0;
        }

        int put(int order, int with) {
            int at = size;
            if (at + 2 > MOST_CODE) {
                return NONE;
            }
            code[at] = order;
            code[at + 1] = with;
            size += 2;
            return at;
        }

        /** Lets a chain of leaps, each of which holds where the one before it is, end here. */
        void landHere(int lastLeap) {
            int leap = lastLeap;
            for (int i = 0; i < MOST_CODE && leap >= 0 && leap + 1 < MOST_CODE; i++) {
                int before = code[leap + 1];
                code[leap + 1] = size;
                leap = before;
            }
        }

        void addClause(int cost, int condition) {
            if (clauses < MOST_CLAUSES) {
                costAt[clauses] = cost;
                conditionAt[clauses] = condition;
                clauses++;
            }
        }

        void become(LawCode other) {
            System.arraycopy(other.code, 0, code, 0, MOST_CODE);
            System.arraycopy(other.costAt, 0, costAt, 0, MOST_CLAUSES);
            System.arraycopy(other.conditionAt, 0, conditionAt, 0, MOST_CLAUSES);
            size = other.size;
            clauses = other.clauses;
            age++;
        }

        /** What the CHANGE that is named costs; 0: it may not be. */
        int costOfNamed() {
            int cost = 0;
            for (int c = 0; c < clauses; c++) {
                boolean forbids = costAt[c] == NONE;
                if ((forbids || cost == 0) && runsThrough(conditionAt[c]) && truth) {
                    if (forbids) {
                        return 0;
                    }
                    int number = runsThrough(costAt[c]) && heldCount > 0 ? held[0] : 0;
                    cost = Math.max(1, Math.min(MOST_COST, number));
                }
            }
            return cost == 0 ? 1 : cost;
        }

        /** False: REFUSED. Else truth or held[0] is what was reckoned. */
        private boolean runsThrough(int start) {
            int at = start;
            heldCount = 0;
            truth = false;
            for (int i = 0; i < MOST_CODE; i++) {
                if (at < 0 || at + 1 >= MOST_CODE) {
                    return false;
                }
                int order = code[at];
                int with = code[at + 1];
                at += 2;
                if (order == END) {
                    return true;
                }
                if (order == NOT) {
                    truth = !truth;
                } else if (order == LEAP_IF || order == LEAP_UNLESS) {
                    at = truth == (order == LEAP_IF) ? with : at;
                } else if (!reckons(order, with)) {
                    return false;
                }
            }
            return false;
        }

        private boolean reckons(int order, int with) {
            if (order != NUMBER && order != NAMED) {
                return joinsTwo(order);
            }
            if (heldCount < 0 || heldCount >= MOST_HELD || (order == NAMED && (with < 0 || with >= NAMES))) {
                return false;
            }
            held[heldCount] = order == NUMBER ? with : named[with];
            heldCount++;
            return true;
        }

        /** The other orders are the signs themselves: each takes two numbers. */
        private boolean joinsTwo(int sign) {
            if (heldCount < 2 || heldCount > MOST_HELD) {
                return false;
            }
            int left = held[heldCount - 2];
            int right = held[heldCount - 1];
            if (sign == '<' || sign == '>' || sign == '=') {
                heldCount -= 2;
                truth = sign == '<' ? left < right : sign == '>' ? left > right : left == right;
                return true;
            }
            int made;
            if (sign == '+' || sign == '-') {
                made = sign == '+' ? left + right : left - right;
            } else if (sign == '*') {
                made = left * right;
            } else if (right == 0) {
                return false;
            } else {
                made = sign == '/' ? left / right : left % right;
            }
            heldCount--;
            held[heldCount - 1] = made;
            return true;
        }
    }

    /** Reads a LAW from the tape into orders of its own, so that the LAW before stays if there is a FAULT. */
    static final class LawReader {
        static final int MOST_TEXT = 160;
        static final int MOST_OPEN = 6;
        static final int MOST_DIGITS = 5;
        static final int WRONG_SIGN = 1;
        static final int SIXTH_DIGIT = 2;
        static final int TOO_MANY_CLAUSES = 4;
        static final int TOO_MANY_OPEN = 5;
        /** In the order of the names of LawCode. */
        static final String LETTERS = "kioplfgab";

        final Tape tape;
        final LawCode out = new LawCode();
        int textLength;
        int place;
        int fault;

        LawReader(Tape from) {
            tape = from;
        }

        /** False: there is a FAULT, at the place. */
        boolean readText(int n) {
            textLength = n;
            place = 0;
            fault = 0;
            out.restart();
            for (int c = 0; c <= LawCode.MOST_CLAUSES; c++) {
                int sign = next();
                if (sign != 'n' && sign != 'c') {
                    return fails(WRONG_SIGN);
                }
                if (c == LawCode.MOST_CLAUSES) {
                    return fails(TOO_MANY_CLAUSES);
                }
                place++;
                if (!readClause(sign == 'c')) {
                    return false;
                }
                if (place >= textLength) {
                    return true;
                }
                if (!passes(';')) {
                    return false;
                }
            }
            return fails(WRONG_SIGN);
        }

        private boolean readClause(boolean isCost) {
            int cost = NONE;
            if (isCost) {
                cost = out.size;
                if (!readSum(0)) {
                    return false;
                }
                out.put(LawCode.END, 0);
            }
            int condition = out.size;
            if (!readBrackets(0)) {
                return false;
            }
            out.put(LawCode.END, 0);
            out.addClause(cost, condition);
            return true;
        }

        private boolean readBrackets(int open) {
            if (next() != '(') {
                return fails(WRONG_SIGN);
            }
            return opens(open) && readParts(open + 1) && passes(')');
        }

        private boolean readParts(int open) {
            int leap = NONE;
            for (int i = 0; i <= MOST_TEXT; i++) {
                if (!readPieces(open)) {
                    return false;
                }
                if (next() != '|') {
                    out.landHere(leap);
                    return true;
                }
                place++;
                leap = out.put(LawCode.LEAP_IF, leap);
            }
            return fails(WRONG_SIGN);
        }

        private boolean readPieces(int open) {
            int leap = NONE;
            for (int i = 0; i <= MOST_TEXT; i++) {
                if (!readPiece(open)) {
                    return false;
                }
                if (next() != '&') {
                    out.landHere(leap);
                    return true;
                }
                place++;
                leap = out.put(LawCode.LEAP_UNLESS, leap);
            }
            return fails(WRONG_SIGN);
        }

        private boolean readPiece(int open) {
            int sign = next();
            if (sign == '(') {
                return readBrackets(open);
            }
            return sign == '!' ? readDenied(open) : readCompared(open);
        }

        private boolean readDenied(int open) {
            if (!opens(open) || !readPiece(open + 1)) {
                return false;
            }
            out.put(LawCode.NOT, 0);
            return true;
        }

        private boolean readCompared(int open) {
            if (!readSum(open)) {
                return false;
            }
            int sign = next();
            if (sign != '<' && sign != '>' && sign != '=') {
                return fails(WRONG_SIGN);
            }
            place++;
            if (!readSum(open)) {
                return false;
            }
            out.put(sign, 0);
            return true;
        }

        private boolean readSum(int open) {
            int sign = 0;
            for (int i = 0; i <= MOST_TEXT; i++) {
                if (!readProduct(open)) {
                    return false;
                }
                if (sign != 0) {
                    out.put(sign, 0);
                }
                sign = next();
                if (sign != '+' && sign != '-') {
                    return true;
                }
                place++;
            }
            return fails(WRONG_SIGN);
        }

        private boolean readProduct(int open) {
            int sign = 0;
            for (int i = 0; i <= MOST_TEXT; i++) {
                if (!readFactor(open)) {
                    return false;
                }
                if (sign != 0) {
                    out.put(sign, 0);
                }
                sign = next();
                if (sign != '*' && sign != '/' && sign != '%') {
                    return true;
                }
                place++;
            }
            return fails(WRONG_SIGN);
        }

        private boolean readFactor(int open) {
            int sign = next();
            if (sign == '[') {
                return opens(open) && readSum(open + 1) && passes(']');
            }
            if (isDigit(sign)) {
                return readNumber();
            }
            int name = sign < 'a' || sign > 'z' ? NONE : LETTERS.indexOf((char) sign);
            if (name < 0) {
                return fails(WRONG_SIGN);
            }
            place++;
            out.put(LawCode.NAMED, name);
            return true;
        }

        private boolean readNumber() {
            int number = 0;
            for (int i = 0; i < MOST_DIGITS; i++) {
                if (!isDigit(next())) {
                    break;
                }
                number = 10 * number + next() - '0';
                place++;
            }
            if (isDigit(next())) {
                return fails(SIXTH_DIGIT);
            }
            out.put(LawCode.NUMBER, number);
            return true;
        }

        private int next() {
            return place < textLength ? tape.byteAt(place) : NONE;
        }

        private boolean passes(int sign) {
            if (next() != sign) {
                return fails(WRONG_SIGN);
            }
            place++;
            return true;
        }

        /** This check also bounds how deep the reading methods call one another. */
        private boolean opens(int open) {
            if (open >= MOST_OPEN) {
                return fails(TOO_MANY_OPEN);
            }
            place++;
            return true;
        }

        private boolean fails(int number) {
            fault = number;
            return false;
        }

        private static boolean isDigit(int sign) {
            return sign >= '0' && sign <= '9';
        }
    }

    /**
     * The STEPS. Which CHANGE makes one WORD of another one never changes while both are there, so
     * it is found when a WORD comes; what it costs hangs on THE LAW and is found when asked for.
     */
    static final class Steps {
        static final int ANOTHER = 0;
        static final int PUT_IN = 1;
        static final int LEFT_OUT = 2;
        static final int CHANGED_ABOUT = 3;

        final Words words;
        final LawCode law;
        final int[][] kind = new int[MOST_WORDS][MOST_WORDS];
        final int[][] firstPlace = new int[MOST_WORDS][MOST_WORDS];
        final int[][] lastPlace = new int[MOST_WORDS][MOST_WORDS];
        final int[][] cost = new int[MOST_WORDS][MOST_WORDS];
        final int[][] place = new int[MOST_WORDS][MOST_WORDS];
        final long[] next = new long[MOST_WORDS];
        int wordsAge = NONE;
        int lawAge = NONE;
        int age;

        Steps(Words all, LawCode by) {
            words = all;
            law = by;
        }

        void joinLast() {
            int last = words.size - 1;
            for (int w = 0; w <= last && last < MOST_WORDS; w++) {
                findChange(w, last);
                findChange(last, w);
            }
        }

        private void findChange(int from, int to) {
            kind[from][to] = NONE;
            int longer = words.length[to] - words.length[from];
            if (longer == 0) {
                findChangeOfLike(from, to);
            } else if (longer == 1 || longer == -1) {
                findChangeOfLength(from, to, longer);
            }
        }

        private void findChangeOfLike(int from, int to) {
            int[] old = words.letters[from];
            int[] made = words.letters[to];
            int length = words.length[from];
            int first = alikeAhead(old, made, length);
            int last = length - 1 - alikeBehind(from, to, length);
            if (first == last) {
                setChange(from, to, ANOTHER, first, first);
            } else if (first + 1 == last && old[first] == made[last] && old[last] == made[first]) {
                setChange(from, to, CHANGED_ABOUT, first, first);
            }
        }

        /** In a run of like LETTERS any of them may be the one: the places are all from first to last. */
        private void findChangeOfLength(int from, int to, int longer) {
            int shorter = Math.min(words.length[from], words.length[to]);
            int last = alikeAhead(words.letters[from], words.letters[to], shorter);
            int first = shorter - alikeBehind(from, to, shorter);
            if (first <= last) {
                setChange(from, to, longer == 1 ? PUT_IN : LEFT_OUT, first, last);
            }
        }

        private void setChange(int from, int to, int which, int first, int last) {
            kind[from][to] = which;
            firstPlace[from][to] = first;
            lastPlace[from][to] = last;
        }

        private static int alikeAhead(int[] a, int[] b, int most) {
            int n = 0;
            while (n < most && n < MOST_LETTERS && a[n] == b[n]) {
                n++;
            }
            return n;
        }

        private int alikeBehind(int a, int b, int most) {
            int lastA = words.length[a] - 1;
            int lastB = words.length[b] - 1;
            int n = 0;
            while (n < most && n <= lastA && n <= lastB && words.letters[a][lastA - n] == words.letters[b][lastB - n]) {
                n++;
            }
            return n;
        }

        void refresh() {
            if (wordsAge == words.age && lawAge == law.age) {
                return;
            }
            wordsAge = words.age;
            lawAge = law.age;
            age++;
            for (int from = 0; from < words.size; from++) {
                next[from] = 0;
                for (int to = 0; to < words.size; to++) {
                    cost[from][to] = 0;
                    if (kind[from][to] != NONE && words.isUsed(from) && words.isUsed(to)) {
                        findCost(from, to);
                    }
                }
            }
        }

        private void findCost(int from, int to) {
            nameChange(from, to);
            for (int i = firstPlace[from][to]; i <= lastPlace[from][to]; i++) {
                law.named[LawCode.PLACE] = i;
                int costs = law.costOfNamed();
                if (costs != 0 && (cost[from][to] == 0 || costs < cost[from][to])) {
                    cost[from][to] = costs;
                    place[from][to] = i;
                    next[from] |= 1L << to;
                }
            }
        }

        /** All but the place: what goes and what comes is alike at each place that makes the same row. */
        private void nameChange(int from, int to) {
            int which = kind[from][to];
            int at = firstPlace[from][to];
            int[] named = law.named;
            named[LawCode.KIND] = which;
            named[LawCode.GOES] = which == PUT_IN ? ALPHABET : letterIn(from, at);
            named[LawCode.COMES] = which == LEFT_OUT ? ALPHABET : letterIn(to, at);
            named[LawCode.LENGTH] = words.length[from];
            named[LawCode.KNOWN_FROM] = words.known[from];
            named[LawCode.KNOWN_TO] = words.known[to];
            named[LawCode.FROM] = from;
            named[LawCode.TO] = to;
        }

        private int letterIn(int w, int at) {
            return at >= 0 && at < MOST_LETTERS ? words.letters[w][at] : ALPHABET;
        }

        /** 0: there is no STEP. */
        int costOf(int a, int b) {
            return words.has(a) && words.has(b) ? cost[a][b] : 0;
        }

        int kindOf(int a, int b) {
            return kind[a][b];
        }

        int placeOf(int a, int b) {
            return place[a][b];
        }

        boolean leads(int a, int b) {
            return ((next[a] >>> b) & 1) != 0;
        }

        /** Where a drawn number leads. */
        int goneTo(int from, int number) {
            int choices = Long.bitCount(next[from]);
            if (choices == 0) {
                return from;
            }
            int left = number % choices;
            for (int w = 0; w < words.size; w++) {
                if (leads(from, w)) {
                    if (left == 0) {
                        return w;
                    }
                    left--;
                }
            }
            return from;
        }
    }

    /**
     * What can be come to by STEPS and how; reckoned anew only when STEPS are. Whoever asks refreshes
     * first the STEPS, then the part that is asked: so no chain of calls grows long.
     */
    static final class Ways {
        /** A way's weight is its COST above its length, so that one number ranks both. */
        static final int WEIGHT = 64;
        static final int NO_WAY = 1 << 29;

        final Words words;
        final Steps steps;
        final int[][] weight = new int[MOST_WORDS][MOST_WORDS];
        final long[] reach = new long[MOST_WORDS];
        final int[] leader = new int[MOST_WORDS];
        final long[] counts = new long[MOST_WORDS];
        final long[] countsBefore = new long[MOST_WORDS];
        final boolean[] done = new boolean[MOST_WORDS];
        int heapCount;
        int farFrom;
        int farTo;
        int farCost;
        int busiest;
        int busiestTwos;
        int reachAge = NONE;
        int weightAge = NONE;
        int busiestAge = NONE;

        Ways(Words all, Steps by) {
            words = all;
            steps = by;
        }

        void refreshReach() {
            if (reachAge == steps.age) {
                return;
            }
            reachAge = steps.age;
            int n = words.size;
            for (int w = 0; w < n; w++) {
                reach[w] = words.isUsed(w) ? steps.next[w] | (1L << w) : 0;
            }
            for (int by = 0; by < n; by++) {
                for (int w = 0; w < n; w++) {
                    if (reaches(w, by)) {
                        reach[w] |= reach[by];
                    }
                }
            }
            findHeaps();
        }

        private void findHeaps() {
            heapCount = 0;
            for (int w = 0; w < words.size; w++) {
                int lowest = 0;
                while (lowest < w && !(reaches(w, lowest) && reaches(lowest, w))) {
                    lowest++;
                }
                leader[w] = lowest;
                if (lowest == w && words.isUsed(w)) {
                    heapCount++;
                }
            }
        }

        boolean reaches(int a, int b) {
            return ((reach[a] >>> b) & 1) != 0;
        }

        void refresh() {
            if (weightAge == steps.age) {
                return;
            }
            weightAge = steps.age;
            startWeights();
            int n = words.size;
            for (int by = 0; by < n; by++) {
                int[] onward = weight[by];
                for (int from = 0; from < n; from++) {
                    int[] row = weight[from];
                    int ahead = row[by];
                    for (int to = 0; ahead < NO_WAY && to < n; to++) {
                        if (ahead + onward[to] < row[to]) {
                            row[to] = ahead + onward[to];
                        }
                    }
                }
            }
            findFarTwo();
        }

        private void startWeights() {
            for (int from = 0; from < words.size; from++) {
                for (int to = 0; to < words.size; to++) {
                    int cost = steps.costOf(from, to);
                    weight[from][to] = cost == 0 ? NO_WAY : WEIGHT * cost + 1;
                }
                if (words.isUsed(from)) {
                    weight[from][from] = 0;
                }
            }
        }

        private void findFarTwo() {
            farFrom = NONE;
            farTo = NONE;
            farCost = 0;
            for (int from = 0; from < words.size; from++) {
                for (int to = 0; to < words.size; to++) {
                    if (from != to && isWay(from, to) && costOf(from, to) > farCost) {
                        farFrom = from;
                        farTo = to;
                        farCost = costOf(from, to);
                    }
                }
            }
        }

        boolean isWay(int a, int b) {
            return weight[a][b] < NO_WAY;
        }

        int costOf(int a, int b) {
            return weight[a][b] / WEIGHT;
        }

        int lengthOf(int a, int b) {
            return weight[a][b] % WEIGHT;
        }

        int wordAt(int a, int b, int place) {
            int at = a;
            for (int i = 0; i < place; i++) {
                at = stepToward(at, b);
            }
            return at;
        }

        private int stepToward(int at, int b) {
            for (int w = 0; w < words.size; w++) {
                if (steps.leads(at, w) && WEIGHT * steps.costOf(at, w) + 1 + weight[w][b] == weight[at][b]) {
                    return w;
                }
            }
            return at;
        }

        /** A STEP costs something, so a WORD's rows can be counted once all nearer ones are. */
        long countLeast(int a, int b) {
            int n = words.size;
            for (int w = 0; w < n; w++) {
                done[w] = !isWay(w, b);
                counts[w] = 0;
            }
            for (int turn = 0; turn < n; turn++) {
                int w = nearestUndone(b);
                if (w == NONE || w == a) {
                    break;
                }
                done[w] = true;
                counts[w] = w == b ? 1 : countOnward(w, b);
            }
            return a == b ? 1 : countOnward(a, b);
        }

        private int nearestUndone(int b) {
            int nearest = NONE;
            for (int w = 0; w < words.size; w++) {
                if (!done[w] && (nearest == NONE || weight[w][b] < weight[nearest][b])) {
                    nearest = w;
                }
            }
            return nearest;
        }

        private long countOnward(int from, int b) {
            long sum = 0;
            for (int w = 0; w < words.size; w++) {
                if (steps.leads(from, w) && isWay(w, b) && steps.costOf(from, w) + costOf(w, b) == costOf(from, b)) {
                    sum += counts[w];
                }
            }
            return sum;
        }

        long neededBetween(int a, int b) {
            long needed = 0;
            for (int w = 0; w < words.size; w++) {
                if (w != a && w != b && reaches(a, w) && reaches(w, b) && !reachesWithout(a, b, w)) {
                    needed |= 1L << w;
                }
            }
            return needed;
        }

        private boolean reachesWithout(int a, int b, int closed) {
            long seen = 1L << a;
            long edge = seen;
            for (int turn = 0; turn < words.size && edge != 0; turn++) {
                long onward = 0;
                for (int w = 0; w < words.size; w++) {
                    if (((edge >>> w) & 1) != 0) {
                        onward |= steps.next[w];
                    }
                }
                edge = onward & ~seen & ~(1L << closed);
                seen |= edge;
            }
            return ((seen >>> b) & 1) != 0;
        }

        void refreshBusiest() {
            if (busiestAge == steps.age) {
                return;
            }
            busiestAge = steps.age;
            busiest = NONE;
            busiestTwos = 0;
            for (int w = 0; w < words.size; w++) {
                int twos = words.isUsed(w) ? twosBy(w) : NONE;
                if (twos > busiestTwos || (busiest == NONE && twos == 0)) {
                    busiest = w;
                    busiestTwos = twos;
                }
            }
        }

        private int twosBy(int w) {
            int twos = 0;
            for (int from = 0; from < words.size; from++) {
                if (from == w || !isWay(from, w)) {
                    continue;
                }
                int ahead = costOf(from, w);
                for (int to = 0; to < words.size; to++) {
                    if (to != w && to != from && isWay(w, to) && ahead + costOf(w, to) == costOf(from, to)) {
                        twos++;
                    }
                }
            }
            return twos;
        }

        long countWalks(int a, int b, int n) {
            for (int w = 0; w < words.size; w++) {
                counts[w] = w == a ? 1 : 0;
            }
            for (int turn = 0; turn < n; turn++) {
                System.arraycopy(counts, 0, countsBefore, 0, MOST_WORDS);
                for (int w = 0; w < words.size; w++) {
                    counts[w] = walksInto(w);
                }
            }
            return counts[b];
        }

        private long walksInto(int w) {
            long sum = 0;
            for (int from = 0; from < words.size; from++) {
                if (countsBefore[from] != 0 && steps.leads(from, w)) {
                    sum += countsBefore[from];
                }
            }
            return sum;
        }
    }

    /**
     * Finds A NEW WORD: all rows one CHANGE from a USED WORD are kept by key, with the WORDS they join.
     * They stand in a list, so that few rows cost little; slots only find them there again.
     */
    static final class NewWords {
        /** A WORD of seven LETTERS has the most rows by it: 389. */
        static final int MOST_ROWS = 400 * MOST_WORDS;
        /** A power of two, twice as many as there can be rows. */
        static final int SLOTS = 32768;
        static final int SLOT_SHIFT = 49;
        static final long SPREAD = 0x9E3779B97F4A7C15L;

        final Words words;
        final Steps steps;
        final Ways ways;
        /** One more than the number of the row; 0: none. */
        final int[] slots = new int[SLOTS];
        final int[] slotOfRow = new int[MOST_ROWS];
        final long[] keys = new long[MOST_ROWS];
        final long[] joins = new long[MOST_ROWS];
        int rows;
        int bestHeaps;
        int bestWords;
        long bestKey;
        int age = NONE;

        NewWords(Words all, Steps by, Ways along) {
            words = all;
            steps = by;
            ways = along;
        }

        void refresh() {
            if (age == steps.age) {
                return;
            }
            age = steps.age;
            emptyRows();
            for (int w = 0; w < words.size; w++) {
                if (words.isUsed(w)) {
                    joinOtherLetters(w);
                    joinPutIn(w);
                    joinShorterAndChangedAbout(w);
                }
            }
            findBest();
        }

        private void emptyRows() {
            for (int row = 0; row < rows && row < MOST_ROWS; row++) {
                slots[slotOfRow[row]] = 0;
            }
            rows = 0;
        }

        int letterAt(int place) {
            return place < Words.lengthOfKey(bestKey) ? Words.letterOfKey(bestKey, place) : NONE;
        }

        private void joinOtherLetters(int w) {
            for (int i = 0; i < words.length[w]; i++) {
                int shift = Words.BITS * (words.length[w] - 1 - i);
                long blank = words.keys[w] & ~(31L << shift);
                for (int letter = 0; letter < ALPHABET; letter++) {
                    join(blank | ((long) letter << shift), w);
                }
            }
        }

        private void joinPutIn(int w) {
            int length = words.length[w];
            if (length >= MOST_LETTERS) {
                return;
            }
            for (int i = 0; i <= length; i++) {
                int shift = Words.BITS * (length - i);
                long behind = lettersOf(w) & ((1L << shift) - 1);
                long ahead = lettersOf(w) >>> shift;
                for (int letter = 0; letter < ALPHABET; letter++) {
                    long made = (((ahead << Words.BITS) | letter) << shift) | behind;
                    join(Words.keyOf(made, length + 1), w);
                }
            }
        }

        private void joinShorterAndChangedAbout(int w) {
            int length = words.length[w];
            for (int i = 0; i < length; i++) {
                int shift = Words.BITS * (length - 1 - i);
                long behind = lettersOf(w) & ((1L << shift) - 1);
                long ahead = lettersOf(w) >>> (shift + Words.BITS);
                if (length > 1) {
                    join(Words.keyOf((ahead << shift) | behind, length - 1), w);
                }
                if (i + 1 < length) {
                    long unlike = (lettersOf(w) >>> shift ^ lettersOf(w) >>> (shift - Words.BITS)) & 31;
                    join(words.keys[w] ^ (unlike << shift) ^ (unlike << (shift - Words.BITS)), w);
                }
            }
        }

        private long lettersOf(int w) {
            return words.keys[w] & ((1L << Words.LENGTH_AT) - 1);
        }

        private void join(long key, int w) {
            int slot = (int) ((key * SPREAD) >>> SLOT_SHIFT) & (SLOTS - 1);
            for (int i = 0; i < SLOTS; i++) {
                int row = slots[slot] - 1;
                if (row < 0) {
                    addRow(key, w, slot);
                    return;
                }
                if (keys[row] == key) {
                    joins[row] |= 1L << w;
                    return;
                }
                slot = (slot + 1) & (SLOTS - 1);
            }
        }

        private void addRow(long key, int w, int slot) {
            if (rows < MOST_ROWS) {
                keys[rows] = key;
                joins[rows] = 1L << w;
                slotOfRow[rows] = slot;
                rows++;
                slots[slot] = rows;
            }
        }

        private void findBest() {
            bestHeaps = 0;
            bestWords = 0;
            bestKey = 0;
            for (int row = 0; row < rows && row < MOST_ROWS; row++) {
                if (Long.bitCount(joins[row]) >= bestHeaps) {
                    weigh(keys[row], joins[row]);
                }
            }
        }

        private void weigh(long key, long joined) {
            int count = Long.bitCount(joined);
            int heaps = count == 1 ? 1 : heapsOf(joined);
            boolean isBetter = heaps > bestHeaps
                || (heaps == bestHeaps && count > bestWords)
                || (heaps == bestHeaps && count == bestWords && key < bestKey);
            if (isBetter && !words.holds(key)) {
                bestHeaps = heaps;
                bestWords = count;
                bestKey = key;
            }
        }

        private int heapsOf(long joined) {
            long leaders = 0;
            for (int w = 0; w < words.size; w++) {
                if (((joined >>> w) & 1) != 0) {
                    leaders |= 1L << ways.leader[w];
                }
            }
            return Long.bitCount(leaders);
        }
    }

    /** How far rows of LETTERS are, and which WORDS fit one that is on the tape. */
    static final class Spelling {
        final Words words;
        final Tape tape;
        final int[] text = new int[MOST_NEAR_TEXT];
        final int[] row = new int[MOST_LETTERS + 1];
        int nearestFar;
        int nearestWord;
        int nearestCount;

        Spelling(Words all, Tape from) {
            words = all;
            tape = from;
        }

        int apart(int a, int b) {
            return apartFrom(words.letters[a], words.length[a], b);
        }

        /** row[j] is how far the LETTERS of the one so far are from the first j of the WORD. */
        private int apartFrom(int[] letters, int n, int w) {
            int[] other = words.letters[w];
            int m = words.length[w];
            for (int j = 0; j <= m && j <= MOST_LETTERS; j++) {
                row[j] = j;
            }
            for (int i = 0; i < n && i < letters.length; i++) {
                int aslant = row[0];
                row[0] = i + 1;
                for (int j = 1; j <= m && j <= MOST_LETTERS; j++) {
                    int put = letters[i] == other[j - 1] ? aslant : aslant + 1;
                    aslant = row[j];
                    row[j] = Math.min(put, 1 + Math.min(aslant, row[j - 1]));
                }
            }
            return row[m];
        }

        void findNearest(int n) {
            for (int i = 0; i < n && i < MOST_NEAR_TEXT; i++) {
                text[i] = tape.letterAt(i);
            }
            nearestWord = NONE;
            nearestFar = 0;
            nearestCount = 0;
            for (int w = 0; w < words.size; w++) {
                if (!words.isUsed(w)) {
                    continue;
                }
                int far = apartFrom(text, n, w);
                if (nearestWord == NONE || far < nearestFar) {
                    nearestWord = w;
                    nearestFar = far;
                    nearestCount = 0;
                }
                if (far == nearestFar) {
                    nearestCount++;
                }
            }
        }

        long fitting(int n) {
            long fit = 0;
            for (int w = 0; w < words.size; w++) {
                if (words.isUsed(w) && words.length[w] == n && fits(w)) {
                    fit |= 1L << w;
                }
            }
            return fit;
        }

        private boolean fits(int w) {
            for (int i = 0; i < words.length[w]; i++) {
                if (tape.byteAt(i) != Tape.RUBBED_OUT && tape.letterAt(i) != words.letters[w][i]) {
                    return false;
                }
            }
            return true;
        }
    }

    /** WORDS that are told by bytes of the tape, and what is asked of them. Sets of them are bits by place. */
    static final class Told {
        static final int NO_ROW = 1 << 29;

        final Words words;
        final Tape tape;
        final Steps steps;
        final Spelling spelling;
        final int[] list = new int[MOST_TOLD];
        final int[] stepCost = new int[MOST_IN_ROW * MOST_IN_ROW];
        final int[] restCost = new int[MOST_IN_ROW << MOST_IN_ROW];
        final int[] stepBits = new int[MOST_IN_GAME];
        final int[] winsFrom = new int[1 << MOST_IN_GAME];
        final boolean[] isApart = new boolean[1 << MOST_TOLD];
        int size;
        int rowCost;

        Told(Words all, Tape from, Steps by, Spelling spelled) {
            words = all;
            tape = from;
            steps = by;
            spelling = spelled;
        }

        /** False: no such WORDS, or one twice. */
        boolean readWords(int n) {
            size = 0;
            long seen = 0;
            for (int i = 0; i < n && i < MOST_TOLD; i++) {
                int w = tape.byteAt(i);
                if (!words.has(w) || ((seen >>> w) & 1) != 0) {
                    return false;
                }
                seen |= 1L << w;
                list[i] = w;
                size++;
            }
            return true;
        }

        boolean areUsed() {
            for (int i = 0; i < size; i++) {
                if (!words.isUsed(list[i])) {
                    return false;
                }
            }
            return true;
        }

        /** False: there is none. The WORDS are put in their order first: then the first way is the least row. */
        boolean findRow() {
            if (size > MOST_IN_ROW) {
                return false;
            }
            sortList();
            for (int from = 0; from < size; from++) {
                for (int to = 0; to < size; to++) {
                    stepCost[from * size + to] = steps.costOf(list[from], list[to]);
                }
            }
            for (int been = (1 << size) - 1; been > 0; been--) {
                for (int at = 0; at < size; at++) {
                    if (((been >>> at) & 1) != 0) {
                        restCost[been * size + at] = costOnward(been, at);
                    }
                }
            }
            rowCost = NO_ROW;
            for (int at = 0; at < size; at++) {
                rowCost = Math.min(rowCost, restCost[(size << at) + at]);
            }
            return rowCost < NO_ROW;
        }

        private void sortList() {
            for (int i = 1; i < size; i++) {
                int w = list[i];
                int j = i;
                while (j > 0 && list[j - 1] > w) {
                    list[j] = list[j - 1];
                    j--;
                }
                list[j] = w;
            }
        }

        private int costOnward(int been, int at) {
            if (been == (1 << size) - 1) {
                return 0;
            }
            int least = NO_ROW;
            for (int to = 0; to < size; to++) {
                int cost = stepCost[at * size + to];
                if (cost != 0 && ((been >>> to) & 1) == 0) {
                    least = Math.min(least, cost + restCost[(been | (1 << to)) * size + to]);
                }
            }
            return least;
        }

        int rowWordAt(int place) {
            int been = 0;
            int at = NONE;
            int left = rowCost;
            for (int i = 0; i <= place && i < size; i++) {
                int to = rowPlaceAfter(been, at, left);
                if (to == NONE) {
                    return NONE;
                }
                left -= at == NONE ? 0 : stepCost[at * size + to];
                been |= 1 << to;
                at = to;
            }
            return at == NONE ? NONE : list[at];
        }

        private int rowPlaceAfter(int been, int at, int left) {
            for (int to = 0; to < size; to++) {
                int cost = at == NONE ? 0 : stepCost[at * size + to];
                boolean isOpen = ((been >>> to) & 1) == 0 && (at == NONE || cost != 0);
                if (isOpen && cost + restCost[(been | (1 << to)) * size + to] == left) {
                    return to;
                }
            }
            return NONE;
        }

        /** The lowest WORD by which who begins wins; NONE: who begins loses. */
        int winningWord() {
            if (size > MOST_IN_GAME) {
                return NONE;
            }
            findStepBits();
            for (int been = (1 << size) - 1; been > 0; been--) {
                winsFrom[been] = placesFrom(lostAfter(been));
            }
            int good = stepBits[0] & lostAfter(1);
            int lowest = NONE;
            for (int i = 0; i < size; i++) {
                if (((good >>> i) & 1) != 0 && (lowest == NONE || list[i] < lowest)) {
                    lowest = list[i];
                }
            }
            return lowest;
        }

        private void findStepBits() {
            for (int i = 0; i < size && i < MOST_IN_GAME; i++) {
                stepBits[i] = 0;
                for (int j = 0; j < size; j++) {
                    if (steps.leads(list[i], list[j])) {
                        stepBits[i] |= 1 << j;
                    }
                }
            }
        }

        /** The places not come to yet from which the next one to go loses. */
        private int lostAfter(int been) {
            int lost = 0;
            for (int to = 0; to < size; to++) {
                int bit = 1 << to;
                if ((been & bit) == 0 && (winsFrom[been | bit] & bit) == 0) {
                    lost |= bit;
                }
            }
            return lost;
        }

        private int placesFrom(int targets) {
            int places = 0;
            for (int i = 0; targets != 0 && i < size && i < MOST_IN_GAME; i++) {
                if ((stepBits[i] & targets) != 0) {
                    places |= 1 << i;
                }
            }
            return places;
        }

        /** The largest set of which any two are at least d far; of like ones the least number of bits by place. */
        int mostApart(int d) {
            int most = 0;
            isApart[0] = true;
            for (int top = 0; top < size; top++) {
                int tooNear = tooNearBefore(top, d);
                for (int rest = 0; rest < 1 << top; rest++) {
                    int set = rest | (1 << top);
                    isApart[set] = isApart[rest] && (rest & tooNear) == 0;
                    if (isApart[set] && Integer.bitCount(set) > Integer.bitCount(most)) {
                        most = set;
                    }
                }
            }
            return most;
        }

        private int tooNearBefore(int top, int d) {
            int tooNear = 0;
            for (int i = 0; i < top; i++) {
                if (spelling.apart(list[i], list[top]) < d) {
                    tooNear |= 1 << i;
                }
            }
            return tooNear;
        }
    }

    /** Counts SQUARES row by row; each column keeps the WORDS that it can still become. */
    static final class Squares {
        final Words words;
        final long[] withLetter = new long[MOST_SQUARE * ALPHABET];
        final long[] open = new long[(MOST_SQUARE + 1) * MOST_SQUARE];
        final int[] chosen = new int[MOST_SQUARE];
        final int[] first = new int[MOST_SQUARE];
        long sized;
        int side;
        int found;
        int age = NONE;

        Squares(Words all) {
            words = all;
        }

        void refresh(int n) {
            if (age == words.age && side == n) {
                return;
            }
            age = words.age;
            side = n;
            found = 0;
            findWords();
            for (int column = 0; column < side; column++) {
                open[column] = sized;
            }
            putRow(0);
        }

        private void findWords() {
            sized = 0;
            Arrays.fill(withLetter, 0L);
            for (int w = 0; w < words.size; w++) {
                if (words.isUsed(w) && words.length[w] == side) {
                    sized |= 1L << w;
                    for (int i = 0; i < side && i < MOST_SQUARE; i++) {
                        withLetter[i * ALPHABET + words.letters[w][i]] |= 1L << w;
                    }
                }
            }
        }

        private void putRow(int row) {
            if (row >= side || row >= MOST_SQUARE) {
                keepSquare();
                return;
            }
            for (int w = 0; w < words.size; w++) {
                if (((sized >>> w) & 1) != 0) {
                    tryRow(row, w);
                }
            }
        }

        private void tryRow(int row, int w) {
            if (keepsColumnsOpen(row, w)) {
                chosen[row] = w;
                putRow(row + 1);
            }
        }

        private boolean keepsColumnsOpen(int row, int w) {
            int[] letters = words.letters[w];
            for (int column = 0; column < side; column++) {
                long left = open[row * MOST_SQUARE + column] & withLetter[row * ALPHABET + letters[column]];
                if (left == 0) {
                    return false;
                }
                open[(row + 1) * MOST_SQUARE + column] = left;
            }
            return true;
        }

        private void keepSquare() {
            if (found == 0) {
                System.arraycopy(chosen, 0, first, 0, MOST_SQUARE);
            }
            found++;
        }
    }
}
