/**
 * Promise 7 and THE LAW of the Terms: each sentence that names a bound, with the last text that is taken,
 * the first one that is not, the place of the FAULT, and what a STEP costs by it on both sides.
 */
public final class LawBoundsTest {
    private static final String BEGINS_E = "[0123456789kioplfgab";
    private static final String BEGINS_PIECE = BEGINS_E + "(!";
    private static final String JOINS = "+-*/%";
    private static final String DIGITS = "0123456789";
    private static final String TWELVE = "n(0=1)" + ";n(0=1)".repeat(11);

    private LawBoundsTest() {
    }

    public static void main(String[] args) {
        lengths();
        tapeHasNotSoMany();
        firstBytesAlone();
        inPlaceOfTheOneBefore();
        manyInPlace();
        textBeforeStays();
        noBlanks();
        whatCanStand();
        theEndToo();
        sixthDigit();
        thirteenthClause();
        seventhOpen();
        openInOneAnother();
        deniedIsOpenTillItsPieceEnds();
        costsStandAhead();
        firstFromTheLeft();
        anyOfThemForbids();
        costBounds();
        firstThatHolds();
        parts();
        pieces();
        compared();
        sumsFromTheLeft();
        thirtyTwoBits();
        dividedByNothing();
        refusedThroughAll();
        askedAsMuchAsMatters();
        numbers();
        kindLetter();
        placeLetter();
        lettersThatGo();
        lettersThatCome();
        lengthLetter();
        knownLetters();
        numberLetters();
        Desk.end();
    }

    private static void sentence(String says) {
        Desk.sentence(says);
    }

    private static void due(String what, long want, long got) {
        Desk.due(what, want, got);
    }

    /** What law() answers on a new object; then the tape is empty and a LAW with a FAULT is none. */
    private static void law(String text, long want) {
        Desk desk = new Desk();
        due("law " + text, want, desk.law(text));
        due("the tape, after " + text, 0, desk.x.count(3));
        due("CLAUSES, after " + text, Math.max(want, 0), desk.x.count(2));
    }

    private static void fault(int number, int place, String text) {
        law(text, -1000 * number - place);
    }

    // ---- the call

    /** A LAW of that many bytes by which a CHANGE costs 5. */
    private static String lawOf(int bytes) {
        StringBuilder s = new StringBuilder("c5(0=0");
        while (s.length() + 5 <= bytes - 1) {
            s.append("&0=0");
        }
        while (s.length() < bytes - 1) {
            s.append('0');
        }
        return s.append(')').toString();
    }

    private static void lengths() {
        sentence("7: the first n bytes of the tape (1 to 160), THE LAW is a TEXT of at most 160 bytes");
        for (int bytes : new int[] {7, 20, 21, 140, 141, 158, 159, 160}) {
            Desk desk = Desk.of("ab ac");
            due("it is of that many bytes", bytes, lawOf(bytes).length());
            due("of " + bytes, 1, desk.law(lawOf(bytes)));
            due("empty then", 0, desk.x.count(3));
            due("it holds", 5, desk.x.step(0, 1, 0));
        }
        Desk desk = new Desk();
        desk.fillTape(200);
        for (int n : new int[] {0, -1, 161, 162, 200, 201, Integer.MIN_VALUE, Integer.MAX_VALUE}) {
            due("n = " + n, -1, desk.x.law(n));
            due("the tape stays", 200, desk.x.count(3));
        }
        due("n = 160", -1000, desk.x.law(160));
        desk.tape("n");
        due("n = 1", -1001, desk.x.law(1));
        due("empty then", 0, desk.x.count(3));
    }

    private static void tapeHasNotSoMany() {
        sentence("7: NONE: it has not so many (the tape stays)");
        for (int bytes = 20; bytes < 160; bytes += 20) {
            Desk desk = new Desk();
            due("none of an empty tape", -1, desk.x.law(1));
            desk.tape(lawOf(bytes));
            due("one more than " + bytes, -1, desk.x.law(bytes + 1));
            due("160 of " + bytes, -1, desk.x.law(160));
            due("the tape stays", bytes, desk.x.count(3));
            due("no CLAUSES", 0, desk.x.count(2));
            due("all of " + bytes, 1, desk.x.law(bytes));
        }
    }

    private static void firstBytesAlone() {
        sentence("7: THE LAW by the first n bytes of the tape (empty then)");
        Desk desk = Desk.of("ab ac");
        desk.tape("c5(0=0);c6(0=0)n");
        due("what stands behind them is not read", 2, desk.x.law(15));
        due("and is gone", 0, desk.x.count(3));
        desk.tape("c5(0=0);c6(0=0)n");
        due("the first CLAUSE alone", 1, desk.x.law(7));
        due("one byte less: the end can't stand there", -1006, desk.lawOf("c5(0=0)", 6));
        due("one byte more: it can't stand there", -1008, desk.lawOf("c5(0=0);", 8));
    }

    private static void inPlaceOfTheOneBefore() {
        sentence("7: in place of the one before: how many CLAUSES");
        Desk desk = Desk.of("ab ac ad");
        String[] laws = {"n(b=1);c9(b=2)", "c3(b=1)", "c4(b=2);n(a=2);n(a=1)", "c1(0=1)"};
        int[][] dues = {{-2, 9, -2}, {3, 1, 3}, {1, 4, -2}, {1, 1, 1}};
        int[] clauses = {2, 1, 3, 1};
        for (int i = 0; i < laws.length; i++) {
            due(laws[i], clauses[i], desk.law(laws[i]));
            due("CLAUSES", clauses[i], desk.x.count(2));
            due("0 to 1 by " + laws[i], dues[i][0], desk.x.step(0, 1, 0));
            due("0 to 2 by " + laws[i], dues[i][1], desk.x.step(0, 2, 0));
            due("2 to 1 by " + laws[i], dues[i][2], desk.x.step(2, 1, 0));
        }
        for (int clause = 1; clause <= 12; clause++) {
            due("CLAUSES", clause, desk.law(TWELVE.substring(0, 7 * clause - 1)));
        }
    }

    private static void manyInPlace() {
        sentence("7: in place of the one before, however many were there");
        Desk desk = Desk.of("ab ac");
        for (int i = 0; i < 40; i++) {
            String last = ";c" + (i + 2) + "(1=1)";
            String text = "n([0+0]*[0+0]=1);".repeat(8) + "n(0=1)" + last;
            due("LAW " + i + " of " + text.length() + " bytes", 10, desk.law(text));
            due("COST", i + 2, desk.x.step(0, 1, 0));
        }
    }

    private static void textBeforeStays() {
        sentence("7: a FAULT: the TEXT before stays");
        Desk desk = Desk.of("ab ac ad");
        desk.law("c7(b=1);n(b=2)");
        String before = desk.state();
        String[] wrong = {"c8(0=0);", "c8(0=0);n(1=1", "n(000000=0)", TWELVE + ";c", "c8(0=0);n(((((((", "c9(b=1)x", "x"};
        for (String text : wrong) {
            due(text, true, desk.law(text) <= -1000);
            due("empty then", 0, desk.x.count(3));
            due("CLAUSES", 2, desk.x.count(2));
            due("COST", 7, desk.x.step(0, 1, 0));
            due("what may not be", -2, desk.x.step(0, 2, 0));
        }
        Desk.due("all", before, desk.state());
    }

    private static void due(String what, boolean want, boolean got) {
        Desk.due(what, want, got);
    }

    // ---- FAULTS

    private static void noBlanks() {
        sentence("THE LAW: a TEXT, no blanks");
        String law = "c[1]+2(!k<3&(a=4));n(5=5)";
        law(law, 2);
        for (int at = 0; at <= law.length(); at++) {
            fault(1, at, law.substring(0, at) + " " + law.substring(at));
        }
    }

    /** All 256 bytes at one place: those that can stand there, and FAULT 1 at it for all others. */
    private static void canStand(String ahead, String signs) {
        Desk desk = null;
        for (int b = 0; b < 256; b++) {
            desk = b % 100 == 0 ? new Desk() : desk;
            int answer = desk.law(ahead + (char) b + "~");
            int place = ahead.length();
            boolean can = signs.indexOf((char) b) >= 0;
            due("byte " + b + " behind " + ahead, -1000 - (can ? place + 1 : place), answer);
        }
    }

    private static void whatCanStand() {
        sentence("FAULT 1: what can't stand there, its place");
        canStand("", "nc");
        canStand("n", "(");
        canStand("c", BEGINS_E);
        canStand("n(", BEGINS_PIECE);
        canStand("n(!", BEGINS_PIECE);
        canStand("n((", BEGINS_PIECE);
        canStand("n([", BEGINS_E);
        canStand("c[", BEGINS_E);
        canStand("n(k", JOINS + "<>=");
        canStand("n(7", JOINS + "<>=" + DIGITS);
        canStand("n([7", JOINS + "]" + DIGITS);
        canStand("n([k", JOINS + "]");
        canStand("n([k]", JOINS + "<>=");
        canStand("n(k+", BEGINS_E);
        canStand("n(k-", BEGINS_E);
        canStand("n(k*", BEGINS_E);
        canStand("n(k/", BEGINS_E);
        canStand("n(k%", BEGINS_E);
        canStand("n(k<", BEGINS_E);
        canStand("n(k>", BEGINS_E);
        canStand("n(k=", BEGINS_E);
        canStand("n(k=k", JOINS + "&|)");
        canStand("n(k=7", JOINS + "&|)" + DIGITS);
        canStand("n(k=[k]", JOINS + "&|)");
        canStand("n(k=k&", BEGINS_PIECE);
        canStand("n(k=k|", BEGINS_PIECE);
        canStand("n((k=k)", "&|)");
        canStand("n((k=k", JOINS + "&|)");
        canStand("n(!(k=k)", "&|)");
        canStand("n(!k", JOINS + "<>=");
        canStand("n(k=k)", ";");
        canStand("c1(k=k)", ";");
        canStand("n(k=k);", "nc");
        canStand("c1", JOINS + "(" + DIGITS);
        canStand("ck", JOINS + "(");
        canStand("c[k]", JOINS + "(");
        canStand("c[k", JOINS + "]");
        canStand("c1+", BEGINS_E);
        canStand("c1(", BEGINS_PIECE);
        canStand("n(k=k);c1(k=k)", ";");
    }

    private static void theEndToo() {
        sentence("FAULT 1: what can't stand there (the end, too)");
        String law = "c1+[2*k](!(a=1&b<2)|0>i);n(k=3);c7([1]=12345)";
        for (int n = 1; n <= law.length(); n++) {
            String text = law.substring(0, n);
            int clauses = n == 24 ? 1 : n == 31 ? 2 : n == law.length() ? 3 : 0;
            if (clauses > 0) {
                law(text, clauses);
            } else {
                fault(1, n, text);
            }
        }
    }

    private static void sixthDigit() {
        sentence("FAULT 2: a sixth digit, at it; a number of one to five digits");
        String[][] around = {{"n(", "=0)"}, {"n(0=", ")"}, {"c", "(0=0)"}, {"n([", "]=0)"}, {"c1+", "(0=0)"}, {"n(0=0);n(k<1*", "&0=0)"}};
        for (String[] a : around) {
            for (int digits = 1; digits <= 5; digits++) {
                law(a[0] + "98765".substring(0, digits) + a[1], a[0].contains(";") ? 2 : 1);
                law(a[0] + "00000".substring(0, digits) + a[1], a[0].contains(";") ? 2 : 1);
            }
            fault(2, a[0].length() + 5, a[0] + "987654" + a[1]);
            fault(2, a[0].length() + 5, a[0] + "000000" + a[1]);
            fault(2, a[0].length() + 5, a[0] + "1234567");
            fault(2, a[0].length() + 5, a[0] + "000009");
            fault(1, a[0].length() + 5, a[0] + "12345k" + a[1]);
            fault(1, a[0].length() + 5, a[0] + "12345");
        }
    }

    private static void thirteenthClause() {
        sentence("CLAUSES (12 at most); FAULT 4: a 13th CLAUSE, at its letter (if that can stand there)");
        law(TWELVE, 12);
        law(TWELVE.substring(7), 11);
        fault(4, 84, TWELVE + ";n(0=0)");
        fault(4, 84, TWELVE + ";c1(0=0)");
        fault(4, 84, TWELVE + ";n");
        fault(4, 84, TWELVE + ";c");
        fault(4, 84, TWELVE + ";nn");
        fault(1, 84, TWELVE + ";");
        fault(1, 84, TWELVE + ";(");
        fault(1, 84, TWELVE + ";k(0=0)");
        fault(1, 84, TWELVE + ";;n(0=0)");
        fault(1, 83, TWELVE + "n(0=0)");
        fault(1, 77, TWELVE.substring(0, 77));
        fault(1, 78, TWELVE.substring(0, 78));
    }

    private static void seventhOpen() {
        sentence("FAULT 5: a seventh of ( [ ! that are open in one another, at it (the ( of the CLAUSE counts)");
        String[] six = {"(((((0=0)))))", "!!!!!0=0", "[[[[[0]]]]]=0", "(!(!(0=0)))", "!(![[0]]=0)", "((!([0]=0)))", "0=[[[[[0]]]]]", "!!!!(0=0)"};
        for (String c : six) {
            law("n(" + c + ")", 1);
            law("c1(" + c + ")", 1);
        }
        String[] open = {"(((((", "!!!!!", "[[[[[", "(!(!(", "!(![[", "((!([", "0=[[[[[", "!!!!(", "!!!!["};
        for (String o : open) {
            int place = 2 + o.length();
            boolean inE = o.endsWith("[");
            fault(5, place, "n(" + o + "[");
            fault(5, place, "n(" + o + "[0]");
            fault(inE ? 1 : 5, place, "n(" + o + "(0=0)");
            fault(inE ? 1 : 5, place, "n(" + o + "!0=0");
            fault(1, place, "n(" + o + "~");
            fault(1, place + 1, "n(" + o + "k");
        }
        fault(5, 10, "c123(" + "(((((" + "(");
        fault(5, 14, "n(0=0);" + "n(((((((");
    }

    private static void openInOneAnother() {
        sentence("FAULT 5: open in one another (what was closed is not)");
        law("n((0=0)&(0=0)&(0=0)&(0=0)&(0=0)&(0=0)&(0=0)&(0=0))", 1);
        law("n([0]=[0]&[0]=[0]&[0]=[0]&[0]=[0]&[0]=[0])", 1);
        law("n(((((0=0)&(0=0))&((0=0)))|(((0=0)))))", 1);
        law("n([[[[[0]+[0]]*[[0]]]-[0]]]=0)", 1);
        law("n((((([0]=0)))))", 1);
        fault(5, 7, "n(((((([0]=0))))))");
        law("n(0=0);n(0=0);n(0=0);n(0=0);n(0=0);n(0=0);n(0=0);n(0=0)", 8);
        law("n(((((0=0&0=0)))))", 1);
        fault(5, 11, "n(((((0=0&([");
    }

    private static void deniedIsOpenTillItsPieceEnds() {
        sentence("FAULT 5: a ! is open till its PIECE ends");
        law("n(!0=0&!0=0&!0=0&!0=0&!0=0&!0=0&!0=0|!0=0)", 1);
        law("n(!!!!!0=0&!!!!!0=0|!!!!!0=0)", 1);
        law("n(!!!!!0=0&(((((0=0))))))", 1);
        fault(5, 7, "n(!!!!![0]=0)");
        fault(5, 9, "n(!!!!!0=[0])");
        law("n(!!!!0=[0])", 1);
        fault(5, 7, "n(!!!!!(0=0))");
        fault(5, 11, "n(!!!!(0=0&!0=0))");
        law("n(!!!(0=0&!0=0)&!!!!!0=0)", 1);
        fault(5, 11, "n(!!!!(0=0&(0=0)))");
        fault(5, 15, "n(!!!!0=0&!!!!!!0=0)");
    }

    private static void costsStandAhead() {
        sentence("FAULT 5: the E of a CLAUSE stands ahead of it");
        law("c[[[[[[0]]]]]](0=0)", 1);
        fault(5, 7, "c[[[[[[[0]]]]]]](0=0)");
        law("c[[[[[[0]]]]]]((((((0=0))))))", 1);
        fault(5, 20, "c[[[[[[0]]]]]](((((((0=0)))))))");
        law("c[0]+[0]+[0]+[0]+[0]+[0]+[0](0=0)", 1);
        fault(5, 14, "n(0=0);c[[[[[[[");
    }

    private static void firstFromTheLeft() {
        sentence("FAULTS, the first from the left");
        fault(1, 3, "n(0~123456=0)");
        fault(2, 7, "n(123456~0)");
        fault(1, 0, "~" + TWELVE + ";n(0=0)");
        fault(2, 7, "n(123456=0);n(((((((");
        fault(5, 7, "n(((((((123456=0");
        fault(4, 84, TWELVE + ";n(123456=0)");
        fault(2, 89, TWELVE.substring(0, 77) + "n((((((123456;n");
        fault(1, 1, "n[[[[[[[");
        fault(1, 4, "n(0=(((((((");
        due("-1000 times its number, less its place", -5 * 1000 - 7, new Desk().law("n((((((("));
    }

    // ---- what it says

    /** The COST of the STEP by a LAW from WORD 1 to 2, KNOWN 11 and 22; -2: it may not be. */
    private static long cost(String from, String to, String text) {
        Desk desk = Desk.of("zzzzz");
        desk.word(from, 11, 1);
        desk.word(to, 22, 1);
        due("it is taken: " + text, true, desk.law(text) > 0);
        return desk.x.step(1, 2, 0);
    }

    private static void costs(String text, long want) {
        due(text, want, cost("ab", "ac", text));
    }

    private static void holds(String c, boolean want) {
        costs("n(" + c + ")", want ? -2 : 1);
        costs("c5(" + c + ");c6(0=0)", want ? 5 : 6);
    }

    private static void anyOfThemForbids() {
        sentence("n and (C): a CHANGE for which it holds may not be (any n will do)");
        costs("n(0=0)", -2);
        costs("n(0=1)", 1);
        for (int at = 0; at < 12; at++) {
            String text = TWELVE.substring(0, 7 * at + 4) + "0" + TWELVE.substring(7 * at + 5);
            costs(text.replaceFirst("n\\(0=0\\)", "n(1=1)"), -2);
        }
        costs(TWELVE, 1);
        costs("c5(0=0);n(0=0)", -2);
        costs("n(0=0);c5(0=0)", -2);
        costs("c5(0=0);c6(0=0);n(0=1);n(a=1)", -2);
        costs("c5(0=0);c6(0=0);n(0=1);n(a=2)", 5);
    }

    private static void costBounds() {
        sentence("what it costs (1 to 99; beyond its bounds the bound)");
        costs("c0(0=0)", 1);
        costs("c1(0=0)", 1);
        costs("c2(0=0)", 2);
        costs("c98(0=0)", 98);
        costs("c99(0=0)", 99);
        costs("c100(0=0)", 99);
        costs("c99999(0=0)", 99);
        costs("c0-1(0=0)", 1);
        costs("c0-99999(0=0)", 1);
        costs("c32768*65536(0=0)", 1);
        costs("c32768*65536-1(0=0)", 99);
    }

    private static void firstThatHolds() {
        sentence("what it costs: of the first CLAUSE whose C holds; none: 1");
        costs("c5(0=0);c6(0=0)", 5);
        costs("c5(0=1);c6(0=0)", 6);
        costs("c5(0=1);c6(0=1)", 1);
        costs("n(0=1);c6(0=0);c7(0=0)", 6);
        costs("c0(0=0);c7(0=0)", 1);
        costs("c99(0=0);c98(0=0)", 99);
        costs("c98(0=0);c99(0=0)", 98);
        costs("c5(1/0=0);c6(0=0)", 6);
        costs("c5/0(0=0);c6(0=0)", 1);
        for (int at = 1; at <= 12; at++) {
            costs("c9(0=1);".repeat(at - 1) + "c" + (at + 10) + "(0=0)" + ";c8(0=0)".repeat(12 - at), at + 10);
        }
    }

    private static void parts() {
        sentence("C: PARTS with a | between two, one of which must hold");
        holds("0=0|0=1", true);
        holds("0=1|0=0", true);
        holds("0=0|0=0", true);
        holds("0=1|0=1", false);
        holds("0=1|0=1|0=1|0=0", true);
        holds("0=1|0=1|0=1|0=1", false);
    }

    private static void pieces() {
        sentence("a PART: PIECES with an & between two, all of which must; a PIECE: !PIECE, (C)");
        holds("0=0&0=0", true);
        holds("0=1&0=0", false);
        holds("0=0&0=1", false);
        holds("0=0&0=0&0=0&0=1", false);
        holds("0=0&0=0&0=0&0=0", true);
        holds("0=0|0=0&0=1", true);
        holds("0=1&0=0|0=0", true);
        holds("(0=0|0=0)&0=1", false);
        holds("0=1&(0=0|0=0)", false);
        holds("!0=0", false);
        holds("!0=1", true);
        holds("!!0=0", true);
        holds("!0=1|0=0", true);
        holds("!0=0|0=0", true);
        holds("!0=1&0=1", false);
        holds("!(0=1&0=1)", true);
        holds("!(0=0|0=1)", false);
        holds("((0=0))", true);
        holds("((0=1))", false);
    }

    private static void compared() {
        sentence("a PIECE: E, one of < > =, and E");
        holds("3<4", true);
        holds("4<4", false);
        holds("5<4", false);
        holds("3>4", false);
        holds("4>4", false);
        holds("5>4", true);
        holds("3=4", false);
        holds("4=4", true);
        holds("5=4", false);
        holds("0-1<0", true);
        holds("0>0-1", true);
        holds("2+2=2*2", true);
    }

    private static void sumsFromTheLeft() {
        sentence("E: TERMS with + or -; a TERM: FACTORS with one of * / %; from the left on; [E]");
        holds("9-3-2=4", true);
        holds("9-3+2=8", true);
        holds("9-[3-2]=8", true);
        holds("2+3*4=14", true);
        holds("3*4+2=14", true);
        holds("[2+3]*4=20", true);
        holds("48/4/2=6", true);
        holds("48/[4/2]=24", true);
        holds("7/2*2=6", true);
        holds("7*2/3=4", true);
        holds("7%4*2=6", true);
        holds("2*7%4=2", true);
        holds("9-8/3=7", true);
        holds("9-8%3=7", true);
        holds("[[[7]]]=7", true);
        holds("[0-7]/2=0-3", true);
        holds("[0-7]%2=0-1", true);
        holds("7/[0-2]=0-3", true);
        holds("7%[0-2]=1", true);
    }

    private static void thirtyTwoBits() {
        sentence("All is reckoned with 32 bits, as the machine does");
        holds("65535*32768+32767>0", true);
        holds("65535*32768+32768<0", true);
        holds("65536*32768<0", true);
        holds("65536*32768-1>0", true);
        holds("0-65536*32768<0", true);
        holds("65536*65536=0", true);
        holds("65536*65536+1=1", true);
        holds("46341*46341<0", true);
        holds("46340*46340>0", true);
        holds("[65536*32768]/[0-1]=65536*32768", true);
        holds("[65536*32768]%[0-1]=0", true);
        holds("99999*99999/10000=14098*10+6", true);
        holds("99999*99999%10000=5409", true);
    }

    private static void dividedByNothing() {
        sentence("what is divided by 0 is REFUSED: then the C as a whole does not hold, an E is 0");
        for (String c : new String[] {"1/0=1", "1%0=1", "0/0=0", "0%0=0", "0=1/0", "1/[1-1]=1", "5/0<9", "5/0>0", "k/k=1", "[1/0]*0=0"}) {
            holds(c, false);
        }
        holds("1/1=1", true);
        holds("0/1=0", true);
        holds("1%1=0", true);
        costs("c50+5/0(0=0)", 1);
        costs("c50+5%0(0=0)", 1);
        costs("c50+0*[5/[l-2]](0=0)", 1);
        costs("c50+0*[5/[l-1]](0=0)", 50);
        costs("c7/0(0=0);c8(0=0)", 1);
        costs("c7/0(0=1);c8(0=0)", 8);
    }

    private static void refusedThroughAll() {
        sentence("REFUSED: the C as a whole does not hold (through any !, ( ) and |)");
        for (String c : new String[] {"!1/0=1", "!!1/0=1", "!(1/0=1)", "(!(1/0=1))", "1/0=1|0=0", "(1/0=1)|0=0", "(1/0=1|0=0)", "!(1/0=1)|0=0",
            "0=1|1/0=1|0=0", "0=0&1/0=1|0=0", "!(0=0&1/0=1)", "(0=0&(0=1|!(1%0=1)))|0=0", "!(!(0=1|1/0=0))"}) {
            holds(c, false);
        }
        holds("!1/1=2", true);
        holds("1/1=2|0=0", true);
        costs("n(1/0=1);n(0=0)", -2);
        costs("n(1/0=1);c7(0=0)", 7);
    }

    private static void askedAsMuchAsMatters() {
        sentence("Of a C as much is asked, from the left, as matters");
        for (String c : new String[] {"0=0|1/0=1", "0=1&1/0=1|0=0", "!(0=1&1/0=1)", "(0=0|1/0=1)&0=0", "0=0|0=0&1/0=1", "(0=1&1/0=1)|!(0=1&1/0=1)",
            "0=0|1/0=1|1%0=1", "!(0=1&1/0=1&1/0=1)"}) {
            holds(c, true);
        }
        holds("0=1&1/0=1", false);
        holds("!(0=0|1/0=1)", false);
        holds("1/0=1|0=0", false);
        holds("0=0&1/0=1|0=0", false);
        holds("0=1|1/0=1", false);
        costs("c5(0=0|1/0=1)", 5);
        costs("c5(1/0=1|0=0)", 1);
    }

    private static void numbers() {
        sentence("a number of one to five digits");
        holds("0=00000", true);
        holds("00007=7", true);
        holds("99999=9999*10+9", true);
        holds("12345=12344+1", true);
        costs("c00042(0=0)", 42);
        costs("c9(0=0)", 9);
        costs("c10(0=0)", 10);
    }

    // ---- the letters

    /** The STEP may be by n(!letter=value) alone if the letter stands for the value; one more and less it does not. */
    private static void stands(String from, String to, char letter, int value) {
        for (int v = value - 1; v <= value + 1; v++) {
            String number = v < 0 ? "0-1" : String.valueOf(v);
            due(letter + " of " + from + " to " + to, v == value ? 1 : -2, cost(from, to, "n(!" + letter + "=" + number + ")"));
        }
    }

    private static void kindLetter() {
        sentence("k the KIND: 0 another one, 1 put in, 2 left out, 3 changed about");
        stands("abc", "abd", 'k', 0);
        stands("abc", "abcd", 'k', 1);
        stands("abc", "ab", 'k', 2);
        stands("abc", "acb", 'k', 3);
    }

    private static void placeLetter() {
        sentence("i the place (KIND 1: it stands there then; 0 to the length)");
        stands("abc", "xbc", 'i', 0);
        stands("abcdefgh", "abcdefgx", 'i', 7);
        stands("abc", "xabc", 'i', 0);
        stands("abc", "abcx", 'i', 3);
        stands("abcdefg", "abcdefgx", 'i', 7);
        stands("abc", "bc", 'i', 0);
        stands("abc", "ab", 'i', 2);
        stands("abcdefgh", "abcdefg", 'i', 7);
        stands("abc", "bac", 'i', 0);
        stands("abc", "acb", 'i', 1);
        stands("abcdefgh", "abcdefhg", 'i', 6);
    }

    private static void lettersThatGo() {
        sentence("o the LETTER that goes (of 1: 26; of 3: the first of both)");
        stands("ma", "mb", 'o', 0);
        stands("mz", "mb", 'o', 25);
        stands("mz", "mzb", 'o', 26);
        stands("mz", "amz", 'o', 26);
        stands("mza", "mz", 'o', 0);
        stands("mzay", "mzy", 'o', 0);
        stands("cfk", "fck", 'o', 2);
        stands("cfk", "ckf", 'o', 5);
    }

    private static void lettersThatCome() {
        sentence("p the LETTER that comes (of 2: 26; of 3: the second of both)");
        stands("mb", "ma", 'p', 0);
        stands("mb", "mz", 'p', 25);
        stands("mz", "mzb", 'p', 1);
        stands("mz", "zmz", 'p', 25);
        stands("mza", "mz", 'p', 26);
        stands("zm", "m", 'p', 26);
        stands("cfk", "fck", 'p', 5);
        stands("cfk", "ckf", 'p', 10);
    }

    private static void lengthLetter() {
        sentence("l the length ahead of it");
        stands("a", "b", 'l', 1);
        stands("abcdefgh", "abcdefgx", 'l', 8);
        stands("a", "ab", 'l', 1);
        stands("abcdefg", "abcdefgh", 'l', 7);
        stands("ab", "a", 'l', 2);
        stands("abcdefgh", "abcdefg", 'l', 8);
        stands("ab", "ba", 'l', 2);
    }

    private static void knownLetters() {
        sentence("f, g how well the two WORDS are KNOWN");
        stands("ab", "ac", 'f', 11);
        stands("ab", "ac", 'g', 22);
        Desk desk = Desk.of("ab ac");
        int[][] levels = {{0, 99}, {99, 0}, {1, 98}};
        for (int[] l : levels) {
            desk.x.know(0, l[0]);
            desk.x.know(1, l[1]);
            desk.law("n(!f=" + l[0] + ");n(!g=" + l[1] + ")");
            due("from 0 to 1", 1, desk.x.step(0, 1, 0));
            due("from 1 to 0", -2, desk.x.step(1, 0, 0));
        }
    }

    private static void numberLetters() {
        sentence("a, b their numbers");
        stands("ab", "ac", 'a', 1);
        stands("ab", "ac", 'b', 2);
        Desk desk = Desk.chain(40);
        desk.law("n(!a=39);n(!b=38)");
        due("39 to 38", 1, desk.x.step(39, 38, 0));
        due("38 to 39", -2, desk.x.step(38, 39, 0));
        desk.law("n(!a=0);n(!b=1)");
        due("0 to 1", 1, desk.x.step(0, 1, 0));
        due("1 to 0", -2, desk.x.step(1, 0, 0));
    }
}
