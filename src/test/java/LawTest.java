import java.util.Random;

/** THE LAW as a text: what it may hold, its FAULTS, how it is reckoned. */
public final class LawTest {
    private static final String SIGNS = "nc;()|&!<>=+-*/%[]0123456789kioplfgabzN {~";

    private LawTest() {
    }

    public static void main(String[] args) {
        taken();
        wrongSigns();
        otherFaults();
        open();
        anyTexts();
        named();
        reckoned();
        conditions();
        refused();
        asked();
        clauses();
        Desk.end();
    }

    private static void law(String text, long want) {
        Desk desk = new Desk();
        Desk.due("law " + text, want, desk.law(text));
        Desk.due("the tape is empty then", 0, desk.x.count(3));
        Desk.due("how many CLAUSES", want < 0 ? 0 : want, desk.x.count(2));
    }

    private static void taken() {
        String[] one = {"n(0=0)", "n(k<i)", "n(o>p)", "cl(f=g)", "c1+2-3*4/5%6(a=b)", "n(!0=0)", "n((0=0))", "n(!!(0=0))",
            "n(0=0|1=1&2=2)", "n(99999=00000)", "n([k]=[[i]+1])", "c[1](0=0)", "c99999(0=0)", "n(!(0=0|1=1)&!!k=1)", "c[1+2]*[3](1<2)"};
        for (String text : one) {
            law(text, 1);
        }
        law("n(0=0);c1(0=0)", 2);
        law("n(0=0);n(0=0);n(0=0);n(0=0);n(0=0);n(0=0);n(0=0);n(0=0);n(0=0);n(0=0);n(0=0);n(0=0)", 12);
    }

    /** The place is that of the first sign that can't stand there. */
    private static void wrongSigns() {
        String[] texts = {"|", "N(0=0)|0", ";|0", "n|1", "n0|1", "n(|2", "n()|2", "n(0|3", "n(0)|3", "n(0=|4", "n(0=)|4", "n(0=0|5", "n(0=0=|5",
            "n(0=0)n|6", "n(0=0);|7", "n(0=0);;|7", "n( 0=0)|2", "n(0 =0)|3", "n(-1=0)|2", "n(0=0+)|6", "n(0==0)|4", "n(0<=0)|4",
            "n((0)=0)|4", "n(0=(0))|4", "n([0=0])|4", "n([0)=0)|4", "n(0=0])|5", "n(0=0&)|6", "n(0=0&|1=1)|6", "n(!)|3", "n(!&)|3",
            "n(0!=0)|3", "n(5k=0)|3", "n(k5=0)|3", "n(kk=0)|3", "n(z=0)|2", "n(c=0)|2", "n(A=0)|2", "c(0=0)|1", "c1|2", "c1)|2",
            "c1+(0=0)|3", "c1=1(0=0)|2", "c!1(0=0)|1", "c[1(0=0)|3", "c[](0=0)|2", "c1](0=0)|2", "c1(0=0))|7", "n(0=0),n(0=0)|6",
            "n(0=0)|1=1|6", "n((0=0)0=0)|7", "n(0=0(0=0))|5", "n(0=0!0=0)|5", "n([1]2=0)|5", "n(1[2]=0)|3", "n(0=0[1])|5"};
        for (String both : texts) {
            int at = both.lastIndexOf('|');
            String text = both.substring(0, at);
            if (!text.isEmpty()) {
                law(text, -1000 - Integer.parseInt(both.substring(at + 1)));
            }
        }
        law("n(0=0" + (char) 169, -1005);
        law("n(0=" + (char) 0, -1004);
    }

    private static void otherFaults() {
        law("n(123456=0)", -2007);
        law("n(000000=0)", -2007);
        law("n(0=123456)", -2009);
        law("n(12345k=0)", -1007);
        law("c123456(0=0)", -2006);
        law("n(1234567=0", -2007);
        String twelve = "n(0=0)" + ";n(0=0)".repeat(11);
        law(twelve + ";n(0=0)", -4084);
        law(twelve + ";c", -4084);
        law(twelve + ";n)", -4084);
        law(twelve + ";x", -1084);
        law(twelve + ";", -1084);
        law(twelve + "n", -1083);
        law("x" + twelve + ";n", -1000);
    }

    private static void open() {
        law("n((((((0=0))))))", 1);
        law("n(((((((0=0)))))))", -5007);
        law("n(!!!!!0=0)", 1);
        law("n(!!!!!!0=0)", -5007);
        law("n([[[[[0]]]]]=0)", 1);
        law("n([[[[[[0]]]]]]=0)", -5007);
        law("c[[[[[[0]]]]]](0=0)", 1);
        law("c[[[[[[[0]]]]]]](0=0)", -5007);
        law("c[[[[[[0]]]]]]((((((0=0))))))", 1);
        law("n((!([!0=0)", -1006);
        law("n((!(!([0]=0))))", -5007);
        law("n((!(![0]=0)))", 1);
        law("n(!0=0&!0=0&!0=0&!0=0&!0=0&!0=0&!0=0)", 1);
        law("n((0=0)&(0=0)&(0=0)&(0=0)&(0=0)&(0=0)&(0=0))", 1);
        law("n([0]+[0]+[0]+[0]+[0]+[0]+[0]=0)", 1);
        law("n(!!!!(0=0)&((((([", -5017);
        law("n(!!!!!(0", -5007);
        law("n(!!!!![0]=0)", -5007);
        law("n(!!!!![", -5007);
        law("n(((((([0]=0", -5007);
        law("n(((((0=0)&!!0=[0]", -5014 - 1);
        law("n((((((0(", -1008);
        law("n((((((0=0!", -1010);
    }

    /** Many texts made by numbers, most of them nearly right, against PlainFaults. */
    private static void anyTexts() {
        Random random = new Random(20261118);
        String[] parts = {"n(", "c1(", "0=0", "k<[i+1]", "!", "(", ")", "[", "]", "&", "|", ";", "12345", "a*b", "%", ">", "n(0=0);", "n((((((", "!!!!!"};
        Desk desk = new Desk();
        for (int i = 0; i < 40000; i++) {
            StringBuilder s = new StringBuilder(random.nextBoolean() ? "n(" : "c1(0=0);");
            for (int n = 1 + random.nextInt(14); n > 0 && s.length() < 140; n--) {
                s.append(random.nextInt(5) == 0 ? "n(0=0);".repeat(random.nextInt(13)) : parts[random.nextInt(parts.length)]);
            }
            for (int step = 0; step < 40; step++) {
                s.setLength(Math.min(s.length(), 160));
                int fault = PlainFaults.of(s.toString());
                desk = step % 40 == 0 ? new Desk() : desk;
                int answer = desk.law(s.toString());
                if (fault == 0 ? answer != s.toString().split(";").length : answer != fault) {
                    Desk.due("law " + s, fault, answer);
                }
                if (fault == 0) {
                    break;
                }
                mend(s, -fault % 1000, random);
            }
        }
    }

    /** So that the text comes to stand further and further. */
    private static void mend(StringBuilder s, int place, Random random) {
        char sign = SIGNS.charAt(random.nextInt(SIGNS.length()));
        if (place >= s.length() || random.nextInt(3) == 0) {
            s.insert(Math.min(place, s.length()), sign);
        } else if (random.nextInt(4) == 0) {
            s.deleteCharAt(place);
        } else {
            s.setCharAt(place, sign);
        }
        if (s.length() == 0) {
            s.append('n');
        }
    }

    /** What a STEP between two WORDS costs by a LAW; -2: it may not be. */
    private static void costs(String from, String to, String text, long want) {
        Desk desk = new Desk();
        desk.word("zzzzzzz", 0, 1);
        desk.word(from, 11, 1);
        desk.word(to, 22, 1);
        Desk.due("it is taken: " + text, true, desk.law(text) > 0);
        Desk.due(from + " to " + to + " by " + text, want, desk.x.step(1, 2, 0));
    }

    private static void named() {
        String[] all = {"c1+k(0=0)", "c1+i(0=0)", "c1+o(0=0)", "c1+p(0=0)", "cl(0=0)", "cf(0=0)", "cg(0=0)", "c1+a(0=0)", "c1+b(0=0)"};
        String[][] twos = {{"abcd", "abxd"}, {"abcd", "abycd"}, {"abcd", "abd"}, {"abcd", "acbd"}};
        int[][] dues = {{1, 3, 3, 24, 4, 11, 22, 2, 3}, {2, 3, 27, 25, 4, 11, 22, 2, 3}, {3, 3, 3, 27, 4, 11, 22, 2, 3}, {4, 2, 2, 3, 4, 11, 22, 2, 3}};
        for (int kind = 0; kind < 4; kind++) {
            for (int i = 0; i < all.length; i++) {
                costs(twos[kind][0], twos[kind][1], all[i], dues[kind][i]);
            }
        }
        costs("a", "ba", "c1+i(0=0)", 1);
        costs("a", "ab", "c1+i(0=0)", 2);
        costs("a", "aa", "c9-i(0=0)", 8);
        costs("abbb", "abb", "c9-i(0=0)", 6);
        costs("abbb", "abb", "n(i<3)", 1);
        costs("abbb", "abb", "n(i>0)", -2);
    }

    private static void value(String e, long want) {
        costs("ab", "ac", "c" + e + "(0=0)", want);
        costs("ab", "ac", "n(" + e + "=" + want + ")", -2);
    }

    private static void reckoned() {
        value("7-2-3", 2);
        value("2+3*4", 14);
        value("[2+3]*4", 20);
        value("24/4/2", 3);
        value("24/[4/2]", 12);
        value("24/5*5", 20);
        value("29%10", 9);
        value("29%10*3", 27);
        value("3*29%10", 7);
        value("9-[2-8]/4", 10);
        value("9-[2-9]%4", 12);
        value("[0-7]/[0-2]", 3);
        value("65536*65536+5", 5);
        value("99999*99999%100", 9);
        costs("ab", "ac", "n([0-32768]*65536<0)", -2);
        costs("ab", "ac", "n(32768*65536<0)", -2);
        costs("ab", "ac", "n(32768*65536-1>0)", -2);
        costs("ab", "ac", "n([32768*65536]/[0-1]=32768*65536)", -2);
        costs("ab", "ac", "n([32768*65536]%[0-1]=0)", -2);
        costs("ab", "ac", "c100(0=0)", 99);
        costs("ab", "ac", "c99(0=0)", 99);
        costs("ab", "ac", "c0(0=0)", 1);
        costs("ab", "ac", "c0-5(0=0)", 1);
        costs("ab", "ac", "c1-[1-[1-[1-[1-[1-[9]]]]]](0=0)", 9);
        costs("ab", "ac", "c2*[1+2*[1+2*[1+2*[1+2*[1+2*[1]]]]]](0=0)", 99);
        costs("ab", "ac", "c1*[1+1*[1+1*[1+1*[1+1*[1+1*[1]]]]]](0=0)", 6);
    }

    private static void holds(String c, boolean want) {
        costs("ab", "ac", "n(" + c + ")", want ? -2 : 1);
        costs("ab", "ac", "c5(" + c + ")", want ? 5 : 1);
    }

    private static void conditions() {
        String[] right = {"0=0", "0<1", "1>0", "!0=1", "!0<0", "!!0=0", "0=1|0=0", "0=0|0=1", "0=0&1=1", "0=1&0=0|0=0", "0=0|0=0&0=1",
            "(0=1|0=0)&0=0", "!(0=0&0=1)", "!0=1&0=0", "!(0=1)|0=1", "0=1|0=1|0=0", "!(!(!0=1))", "0=0&(0=1|(0=0&!0=1))", "!0=0|0=0"};
        String[] not = {"0=1", "0<0", "1<0", "0>0", "0>1", "!0=0", "!!0=1", "0=1|0=1", "0=0&0=1", "0=1&0=0", "(0=0|0=0)&0=1", "0=1&(0=0|0=0)",
            "!(0=0|0=1)", "!0=1&0=1", "!(0=0)|0=1", "0=0&0=0&0=1", "!0=0&0=0", "!(0=0)&0=0|0=1"};
        for (String c : right) {
            holds(c, true);
        }
        for (String c : not) {
            holds(c, false);
        }
    }

    private static void refused() {
        String[] not = {"1/0=1", "1%0=0", "1/0=1/0", "!1/0=1", "!!1/0=1", "!(1/0=1)", "1/0=1|0=0", "(1/0=1)|0=0", "0=1|1/0=1|0=0",
            "0=0&1/0=1|0=0", "!(0=0&1/0=1)", "0*[1/[k-k]]=0", "0=1/0", "0/0=0", "!(0=1|1%0=1)"};
        for (String c : not) {
            holds(c, false);
        }
        costs("ab", "ac", "c5/0(0=0)", 1);
        costs("ab", "ac", "c50+5%0(0=0)", 1);
        costs("ab", "ac", "c50+0*[5/[l-2]](0=0);c7(0=0)", 1);
        costs("ab", "ac", "c5/0(0=1);c7(0=0)", 7);
        costs("ab", "ac", "n(1/0=1);c7(0=0)", 7);
        costs("ab", "ac", "c5(1/0=1);c7(0=0)", 7);
    }

    /** What does not matter is not asked, so it can't be REFUSED. */
    private static void asked() {
        String[] right = {"0=0|1/0=1", "0=0|(0=0&1/0=1)", "!(0=1&1/0=1)", "0=1&1/0=1|0=0", "(0=0|1/0=1)&0=0", "0=0|1/0=1&1/0=2", "!(0=1&1/0=1&2/0=1)",
            "(0=1&1/0=1)|!(0=1&1/0=1)"};
        for (String c : right) {
            holds(c, true);
        }
        holds("0=1&1/0=1", false);
        holds("!(0=0|1/0=1)", false);
    }

    private static void clauses() {
        costs("ab", "ac", "c5(0=1);c6(0=0);c7(0=0)", 6);
        costs("ab", "ac", "c5(0=1);c6(0=1)", 1);
        costs("ab", "ac", "c5(0=0);n(0=0)", -2);
        costs("ab", "ac", "n(0=1);n(0=1);c5(0=0);n(0=1);n(a=1)", -2);
        costs("ab", "ac", "n(0=1);c5(a=1)", 5);
        costs("ab", "ac", "n(b=1);c5(b=1)", 1);
        costs("ab", "ac", "c0(0=0);c7(0=0)", 1);
    }
}
