/** Sentences of Terms 2 and of promises 11 to 13 that name a boundary case, each by a test of its own. */
public final class EdgesTextsTest {
    private static final Due DUE = new Due("EdgesTextsTest");
    private static final int LEAST = Integer.MIN_VALUE;
    private static final int GREATEST = Integer.MAX_VALUE;
    private static final String FIFTY = "1+2+3+4+5+6+7+8+9+1+2+3+4+5+6+7+8+9+1+2+3+4+5+6+10";

    public static void main(String[] args) {
        feedOneToEightBytes();
        feedLowestFirst();
        tapeOfFiftyBytes();
        textOfAnEmptyTape();
        textOfAFullTape();
        textByUse();
        textEmptiesTheTape();
        textInPlaceOfOneAhead();
        faultLeavesTheOneAhead();
        numbersOfOneToFourDigits();
        namesOfUses();
        noBlanks();
        signsStandBetween();
        oneComparison();
        atMostFiveOpen();
        openOnceMoreBehindClosed();
        bracketsFit();
        faultOfWhatEndsTooEarly();
        faultOfEachByte();
        signsBind();
        signsGoFromTheLeft();
        intsWrap();
        quotientsAreCut();
        byZeroIsZero();
        trueIsWhatIsNotZero();
        lawByUse();
        lawIsHeld();
        lawWithoutTexts();
        lawNamesInOrder();
        DUE.end();
    }

    private static void feedOneToEightBytes() {
        DUE.says("The n lowest bytes (1 .. 8) of a word; BEYOND");
        for (int n : new int[] {0, 9, -1, 10, LEAST, GREATEST}) {
            HandOverHorse x = new HandOverHorse();
            DUE.is("feed(1, " + n + ")", x.feed(1, n), Due.BEYOND);
            DUE.is("count(2)", x.count(2), 0);
        }
        for (int n = 1; n <= 8; n++) {
            HandOverHorse x = new HandOverHorse();
            DUE.is("feed(.., " + n + ")", x.feed(0x2b312b312b312b31L, n), n);
            DUE.is("count(2)", x.count(2), n);
            DUE.is("text(0) of " + n, x.text(0), n % 2 == 1 ? 1 : -10 - n);
            DUE.is("law(0) of " + n, x.law(0, 0, 0, 0, 0), n % 2 == 1 ? (n + 1) / 2 : 0);
        }
    }

    private static void feedLowestFirst() {
        DUE.says("the lowest first, come to THE TAPE");
        HandOverHorse x = new HandOverHorse();
        DUE.is("feed of 9-4 and more above", x.feed(0xffffffffff342d39L, 3), 3);
        DUE.is("feed of -c behind it", x.feed(0x632dL, 2), 5);
        DUE.is("text(0) of 9-4-c", x.text(0), 1);
        DUE.is("law(0)", x.law(0, 2, 0, 0, 0), 3);
        DUE.is("feed of the eight of a word below 0", x.feed(0x8031313131313131L, 8), 8);
        DUE.is("text(0): the fifth digit", x.text(0), -14);
        DUE.is("feed of 1+1+1+1, 128 behind it", x.feed(0x80312b312b312b31L, 8), 8);
        DUE.is("text(0): byte 128", x.text(0), -17);
        DUE.is("feed of 1, 255", x.feed(-1L << 8 | 0x31, 2), 2);
        DUE.is("text(0): byte 255", x.text(0), -11);
        DUE.is("feed of 0", x.feed(0, 1), 1);
        DUE.is("text(0): byte 0", x.text(0), -10);
    }

    private static HandOverHorse fed(int bytes) {
        HandOverHorse x = new HandOverHorse();
        Due.feed(x, FIFTY.substring(0, bytes));
        return x;
    }

    private static void tapeOfFiftyBytes() {
        DUE.says("THE TAPE (bytes, at most 50); FULL");
        for (int n = 1; n <= 8; n++) {
            HandOverHorse x = fed(50 - n);
            DUE.is("feed(.., " + n + ") on " + (50 - n), x.feed(0x3131313131313131L, n), 50);
            DUE.is("feed(.., 1) on 50", x.feed(0x31, 1), Due.FULL);
            DUE.is("feed(.., " + n + ") on 50", x.feed(0x31, n), Due.FULL);
            DUE.is("count(2)", x.count(2), 50);
            HandOverHorse y = fed(51 - n);
            DUE.is("feed(.., " + n + ") on " + (51 - n), y.feed(0x3131313131313131L, n), Due.FULL);
            DUE.is("count(2)", y.count(2), 51 - n);
        }
        HandOverHorse x = fed(50);
        DUE.is("feed(.., 0) on 50: BEYOND ahead of FULL", x.feed(0, 0), Due.BEYOND);
        DUE.is("feed(.., 9) on 50: BEYOND ahead of FULL", x.feed(0, 9), Due.BEYOND);
        DUE.is("feed(.., greatest) on 50", x.feed(0, GREATEST), Due.BEYOND);
        DUE.is("told(4)", x.told(4), 0);
        DUE.is("text(0)", x.text(0), 1);
        DUE.is("feed(.., 8) on none", x.feed(0, 8), 8);
    }

    private static void textOfAnEmptyTape() {
        DUE.says("FAULT: how many there are, if it ends too early: none on an empty tape");
        HandOverHorse x = new HandOverHorse();
        DUE.is("text(0)", x.text(0), -10);
        DUE.is("text(1)", x.text(1), -10);
        Due.read(x, 0, "7");
        DUE.is("text(0) behind a TEXT", x.text(0), -10);
        DUE.is("the one ahead stays", x.law(0, 0, 0, 0, 0), 7);
        DUE.is("told(1)", x.told(1), 0);
    }

    private static void textOfAFullTape() {
        DUE.says("THE TAPE (bytes, at most 50) is the TEXT");
        HandOverHorse x = new HandOverHorse();
        DUE.is("text(0) of 50 bytes", Due.read(x, 0, FIFTY), 1);
        DUE.is("law(0)", x.law(0, 0, 0, 0, 0), 45 + 45 + 21 + 10);
        DUE.is("text(1) of 50 bytes", Due.read(x, 1, FIFTY), 1);
        DUE.is("law(1)", x.law(1, 0, 0, 0, 0), 121);
        DUE.is("50 bytes that end too early", Due.read(x, 0, FIFTY.substring(0, 49) + "+"), -60);
        DUE.is("a FAULT at the last of 50", Due.read(x, 0, FIFTY.substring(0, 49) + "x"), -59);
        DUE.is("a FAULT at the first of 50", Due.read(x, 0, "x" + FIFTY.substring(1)), -10);
        String deep = "(((((1|c)|c)|c)|c)|c)|!!!!!c|1234567890";
        DUE.is("as many steps as bytes give", Due.read(x, 0, "c+c+c+c+c+c+c+c+c+c+c+c+c+c+c+c+c+c+c+c+c+c+c+c+!c"), 1);
        DUE.is("law(0)", x.law(0, 3, 0, 0, 0), 72);
        DUE.is("the fifth digit behind all that", Due.read(x, 0, deep), -10 - deep.indexOf('5'));
    }

    private static void textByUse() {
        DUE.says("the TEXT of a USE (0, 1); BEYOND (THE TAPE stays)");
        HandOverHorse x = new HandOverHorse();
        Due.feed(x, "7");
        for (int use : new int[] {-1, 2, LEAST, GREATEST}) {
            DUE.is("text(" + use + ")", x.text(use), Due.BEYOND);
            DUE.is("THE TAPE stays", x.count(2), 1);
        }
        DUE.is("text(0)", x.text(0), 1);
        DUE.is("law(0)", x.law(0, 0, 0, 0, 0), 7);
        DUE.is("law(1) has none", x.law(1, 3, 0, 0, 0), 3);
        DUE.is("text(1)", Due.read(x, 1, "8"), 1);
        DUE.is("law(1)", x.law(1, 3, 0, 0, 0), 8);
        DUE.is("law(0) has its own", x.law(0, 0, 0, 0, 0), 7);
        DUE.is("text(2) of an empty tape", x.text(2), Due.BEYOND);
    }

    private static void textEmptiesTheTape() {
        DUE.says("THE TAPE, which is empty then, is the TEXT");
        HandOverHorse x = new HandOverHorse();
        DUE.is("text(0) of 12+c", Due.read(x, 0, "12+c"), 1);
        DUE.is("count(2)", x.count(2), 0);
        DUE.is("feed", Due.feed(x, "5"), 1);
        DUE.is("text(0) of 5, nothing behind it", x.text(0), 1);
        DUE.is("law(0)", x.law(0, 90, 0, 0, 0), 5);
        DUE.says("-10 less the FAULT (THE TAPE is empty, too)");
        DUE.is("text(0) of 12+x", Due.read(x, 0, "12+x"), -13);
        DUE.is("count(2)", x.count(2), 0);
        DUE.is("text(0) of 6", Due.read(x, 0, "6"), 1);
        DUE.is("law(0)", x.law(0, 90, 0, 0, 0), 6);
    }

    private static void textInPlaceOfOneAhead() {
        DUE.says("in place of one ahead: 1");
        HandOverHorse x = new HandOverHorse();
        for (int use = 0; use < 2; use++) {
            DUE.is("a long one", Due.read(x, use, "1+2+3+4+5+6"), 1);
            DUE.is("law", x.law(use, 0, 0, 0, 0), 21);
            DUE.is("a short one", Due.read(x, use, "k"), 1);
            DUE.is("law", x.law(use, 0, use == 0 ? 0 : 9, use == 0 ? 9 : 0, 0), 9);
            DUE.is("a long one once more", Due.read(x, use, "1+2+3+4+5+6+k"), 1);
            DUE.is("law", x.law(use, 0, 0, 0, 0), 21);
        }
    }

    private static void faultLeavesTheOneAhead() {
        DUE.says("-10 less the FAULT (no ERROR; the one ahead stays)");
        HandOverHorse x = new HandOverHorse();
        for (int use = 0; use < 2; use++) {
            String other = use == 0 ? "w" : "h";
            DUE.is("a FAULT without one ahead", Due.read(x, use, "5+" + other), -12);
            DUE.is("there is none yet", x.law(use, 1, 2, 3, 4), use == 0 ? 0 : 1);
            DUE.is("one", Due.read(x, use, "7*3"), 1);
            DUE.is("a FAULT", Due.read(x, use, "8+9+" + other), -14);
            DUE.is("the one ahead stays", x.law(use, 0, 0, 0, 0), 21);
            DUE.is("a FAULT at the end", Due.read(x, use, "8+9+"), -14);
            DUE.is("the one ahead stays", x.law(use, 0, 0, 0, 0), 21);
        }
        for (int k = 1; k <= 5; k++) {
            DUE.is("no ERROR: told(" + k + ")", x.told(k), 0);
        }
    }

    private static void value(String text, int value) {
        HandOverHorse x = new HandOverHorse();
        DUE.is("text(0) of " + text, Due.read(x, 0, text), 1);
        DUE.is("law(0, 2, 3, 4, 5) of " + text, x.law(0, 2, 3, 4, 5), value);
    }

    private static void fault(int use, String text, int place) {
        HandOverHorse x = new HandOverHorse();
        DUE.is("text(" + use + ") of " + text, Due.read(x, use, text), -10 - place);
    }

    private static void numbersOfOneToFourDigits() {
        DUE.says("a NUMBER of 1 to 4 digits");
        value("0", 0);
        value("9", 9);
        value("12", 12);
        value("123", 123);
        value("1234-1000", 234);
        value("9999-9000", 999);
        value("0000", 0);
        value("0012", 12);
        value("0900+0009", 909);
        fault(0, "12345", 4);
        fault(0, "00000", 4);
        fault(0, "c+12345", 6);
        fault(0, "1234c", 4);
        fault(0, "1234(", 4);
        fault(0, "1234!", 4);
        fault(0, "/", 0);
        fault(0, ":", 0);
        fault(0, "1:", 1);
    }

    private static void namesOfUses() {
        DUE.says("NAMES c, m, k, h of DATES; w, k, c of DOUBTS");
        for (int sign = 0; sign < 256; sign++) {
            boolean digit = sign >= '0' && sign <= '9';
            String text = "" + (char) sign;
            HandOverHorse x = new HandOverHorse();
            boolean dates = digit || "cmkh".indexOf(sign) >= 0;
            boolean doubts = digit || "wkc".indexOf(sign) >= 0;
            boolean opens = sign == '!' || sign == '(';
            DUE.is("text(0) of byte " + sign, Due.read(x, 0, text), dates ? 1 : opens ? -11 : -10);
            DUE.is("text(1) of byte " + sign, Due.read(x, 1, text), doubts ? 1 : opens ? -11 : -10);
        }
        value("c", 2);
        value("m", 3);
        value("k", 4);
        value("h", 5);
        fault(0, "cc", 1);
        fault(0, "c1", 1);
        fault(0, "1c", 1);
        fault(0, "c(", 1);
        fault(0, "c!", 1);
    }

    private static void noBlanks() {
        DUE.says("No blanks.");
        fault(0, " ", 0);
        fault(0, " 1", 0);
        fault(0, "1 ", 1);
        fault(0, "1 +1", 1);
        fault(0, "1+ 1", 2);
        fault(0, "! 1", 1);
        fault(0, "( 1)", 1);
        fault(0, "(1 )", 2);
        fault(0, "1\n", 1);
        fault(0, "\t1", 0);
    }

    private static void signsStandBetween() {
        DUE.says("| & < = > + - * / % stand between two");
        for (char sign : "|&<=>+-*/%".toCharArray()) {
            fault(0, "" + sign, 0);
            fault(0, sign + "1", 0);
            fault(0, "1" + sign, 2);
            fault(0, "(1" + sign, 3);
            fault(0, "(1" + sign + ")", 3);
            fault(0, "(" + sign + "1)", 1);
            fault(0, "!" + sign + "1", 1);
            for (char other : "|&<=>+-*/%".toCharArray()) {
                fault(0, "1" + sign + other + "1", 2);
            }
            HandOverHorse x = new HandOverHorse();
            DUE.is("text(0) of 1" + sign + "1", Due.read(x, 0, "1" + sign + "1"), 1);
            DUE.is("text(0) of !1" + sign + "!1", Due.read(x, 0, "!1" + sign + "!1"), 1);
            DUE.is("text(0) of (1)" + sign + "(1)", Due.read(x, 0, "(1)" + sign + "(1)"), 1);
        }
    }

    private static void oneComparison() {
        DUE.says("B: S, or S < S, S = S, S > S");
        for (char sign : "<=>".toCharArray()) {
            for (char other : "<=>".toCharArray()) {
                fault(0, "1" + sign + "2" + other + "3", 3);
                fault(0, "(1" + sign + "2" + other + "3)", 4);
                fault(0, "1" + sign + "2+3" + other + "3", 5);
                fault(0, "(1" + sign + "2)" + other + "3" + sign + "1", 7);
                HandOverHorse x = new HandOverHorse();
                String split = "1" + sign + "2&3" + other + "4|5" + sign + "6";
                DUE.is("text(0) of " + split, Due.read(x, 0, split), 1);
                String nested = "(1" + sign + "2)" + other + "(3" + sign + "4)";
                DUE.is("text(0) of " + nested, Due.read(x, 0, nested), 1);
            }
        }
    }

    /** n of ! and ( as bits tell, 1, and what closes them, from the inside out. */
    private static String open(int n, int bits) {
        StringBuilder ahead = new StringBuilder();
        StringBuilder behind = new StringBuilder();
        for (int i = 0; i < n; i++) {
            ahead.append((bits >> i & 1) == 0 ? '(' : '!');
            behind.append((bits >> i & 1) == 0 ? ")" : "");
        }
        return ahead.append('1').append(behind).toString();
    }

    private static void atMostFiveOpen() {
        DUE.says("At most 5 of ! and ( are open at once.");
        for (int n = 1; n <= 5; n++) {
            for (int bits = 0; bits < 1 << n; bits++) {
                value(open(n, bits), Integer.bitCount(bits) % 2 == 0 ? 1 : 0);
                fault(0, open(n, bits).substring(0, n), n);
            }
        }
        for (int bits = 0; bits < 64; bits++) {
            fault(0, open(6, bits), 5);
            fault(0, "2+" + open(6, bits), 7);
            fault(1, open(7, bits), 5);
        }
        fault(0, "((((1+!(1", 7);
        fault(0, "((((1+!!1", 7);
        fault(0, "(((((1+!1", 7);
        fault(0, "(((((1+(1", 7);
    }

    private static void openOnceMoreBehindClosed() {
        DUE.says("At most 5 of ! and ( are open at once (those that are closed don't count)");
        value("(((((1)))))+(((((1)))))", 2);
        value("!!!!!1+!!!!!1+!!!!!0", 1);
        value("((((!1+!0))))", 1);
        value("((((!1+(3)+!0))))", 4);
        value("((((1)+(1))+(1))+(1))+(1)", 5);
        value("!(!(!1)+!(!1))", 0);
        value("(!!!!0)+(!!!!0)+(1)", 1);
        value("1+(1+(1+(1+(1+(1)))))", 6);
        fault(0, "1+(1+(1+(1+(1+(1+(1))))))", 17);
    }

    private static void bracketsFit() {
        DUE.says("Q: ( T )");
        fault(0, ")", 0);
        fault(0, "()", 1);
        fault(0, "1)", 1);
        fault(0, "(1))", 3);
        fault(0, "(1)(1)", 3);
        fault(0, "(1)1", 3);
        fault(0, "(1)c", 3);
        fault(0, "(1)!1", 3);
        fault(0, "!)", 1);
        fault(0, "!1)", 2);
        fault(0, "(((((1))))))", 11);
        value("(1|0)", 1);
        value("(0&1)", 0);
        value("(1<2)", 1);
        value("((1|0)&(2>1))", 1);
    }

    private static void faultOfWhatEndsTooEarly() {
        DUE.says("FAULT: how many there are, if it ends too early");
        String whole = "!(c+12*m<3)|h";
        for (int n = 0; n <= whole.length(); n++) {
            char last = n == 0 ? ' ' : whole.charAt(n - 1);
            HandOverHorse x = new HandOverHorse();
            boolean ends = n > 10 && last != '|';
            DUE.is("text(0) of " + whole.substring(0, n), Due.read(x, 0, whole.substring(0, n)), ends ? 1 : -10 - n);
        }
    }

    private static void faultOfEachByte() {
        DUE.says("FAULT: the place of the first byte with which no TEXT goes on");
        String whole = "!(c+12*m<3)|h";
        for (int at = 0; at <= whole.length(); at++) {
            fault(0, whole.substring(0, at) + "#", at);
            fault(0, whole.substring(0, at) + "##", at);
            fault(0, whole.substring(0, at) + "#" + whole.substring(at), at);
        }
        fault(0, "(1+2#", 4);
        fault(0, "1+#(((((((", 2);
    }

    private static void signsBind() {
        DUE.says("T: A { | A }. A: B { & B }. B: S < S. S: P { + P, - P }. P: Q { * Q, / Q, % Q }.");
        value("0&0|1", 1);
        value("1|0&0", 1);
        value("(1|0)&0", 0);
        value("1<0&0", 0);
        value("0&1>0", 0);
        value("2>1&1", 1);
        value("1&2=2", 1);
        value("(1&2)=2", 0);
        value("1+1<2", 0);
        value("2>1+1", 0);
        value("1+(1<2)", 2);
        value("3-1=2", 1);
        value("2*3+4", 10);
        value("4+2*3", 10);
        value("9-8/2", 5);
        value("9-8%3", 7);
        value("!0*5", 5);
        value("!0+5", 6);
        value("!5=0", 1);
        value("!0&0", 0);
        value("!1|1", 1);
        value("1|1<0", 1);
        value("2<1|1", 1);
    }

    private static void signsGoFromTheLeft() {
        DUE.says("{ .. }: one after the other, from the left");
        value("9-3-2", 4);
        value("9-3+2", 8);
        value("100/5/2", 10);
        value("100/5*2", 40);
        value("7*5/2", 17);
        value("7/2*5", 15);
        value("7%4*2", 6);
        value("7*4%3", 1);
        value("17%7%2", 1);
        value("17/3%4", 1);
        value("17%10/2", 3);
        value("2|3|0", 1);
        value("0|0|0|4", 1);
        value("2&3&4", 1);
        value("2&3&0", 0);
        value("1-1-1-1-1", -3);
    }

    private static void valueOf(String text, int c, int m, int want) {
        HandOverHorse x = new HandOverHorse();
        DUE.is("text(0) of " + text, Due.read(x, 0, text), 1);
        DUE.is("law(0, " + c + ", " + m + ", 0, 0) of " + text, x.law(0, c, m, 0, 0), want);
    }

    private static void intsWrap() {
        DUE.says("Ints that wrap");
        valueOf("c+m<0", GREATEST, 1, 1);
        valueOf("c+m", GREATEST, LEAST, -1);
        valueOf("c-m>0", LEAST, 1, 1);
        valueOf("c-1-m", LEAST, GREATEST, 0);
        valueOf("0-c=c", LEAST, 0, 1);
        valueOf("c*m", 65536, 65536, 0);
        valueOf("c*m+7", 65536, 65536, 7);
        valueOf("c*m=c", LEAST, -1, 1);
        valueOf("c*m", LEAST, 2, 0);
        valueOf("c*2", GREATEST, 0, -2);
        valueOf("9999*9999*9999<0", 0, 0, 9999 * 9999 * 9999 < 0 ? 1 : 0);
        valueOf("(c/m=c)+2*(c%m=0)", LEAST, -1, 3);
        valueOf("c<m", LEAST, GREATEST, 1);
        valueOf("c>m", LEAST, GREATEST, 0);
    }

    private static void quotientsAreCut() {
        DUE.says("/ cut, % the rest that it leaves");
        valueOf("c/m", 7, 2, 3);
        valueOf("c/m", -7, 2, -3);
        valueOf("c/m", 7, -2, -3);
        valueOf("c/m", -7, -2, 3);
        valueOf("c%m", 7, 2, 1);
        valueOf("c%m", -7, 2, -1);
        valueOf("c%m", 7, -2, 1);
        valueOf("c%m", -7, -2, -1);
        valueOf("c/m", 1, 2, 0);
        valueOf("c/m", -1, 2, 0);
        valueOf("c%m", -1, 2, -1);
        valueOf("c/m", 6, 3, 2);
        valueOf("c%m", 6, 3, 0);
    }

    private static void byZeroIsZero() {
        DUE.says("both by 0 are 0");
        for (int c : new int[] {0, 1, -1, 7, LEAST, GREATEST}) {
            valueOf("c/m", c, 0, 0);
            valueOf("c%m", c, 0, 0);
        }
        value("5/0", 0);
        value("5%0", 0);
        value("5/(3-m)+1", 1);
        value("5%(3-m)+1", 1);
        value("1&5/0", 0);
        value("1|5/0", 1);
    }

    private static void trueIsWhatIsNotZero() {
        DUE.says("| & < = > ! are 1 or 0, what is not 0 being true");
        int[] signs = {0, 1, -1, 2, LEAST, GREATEST};
        for (int a : signs) {
            valueOf("!c", a, 0, a == 0 ? 1 : 0);
            valueOf("!!c", a, 0, a == 0 ? 0 : 1);
            for (int b : signs) {
                valueOf("c|m", a, b, a != 0 || b != 0 ? 1 : 0);
                valueOf("c&m", a, b, a != 0 && b != 0 ? 1 : 0);
                valueOf("c<m", a, b, a < b ? 1 : 0);
                valueOf("c=m", a, b, a == b ? 1 : 0);
                valueOf("c>m", a, b, a > b ? 1 : 0);
            }
        }
        valueOf("c&m", 1, 2, 1);
        valueOf("c&m", 2, 4, 1);
    }

    private static void lawByUse() {
        DUE.says("What a USE gives; BEYOND");
        HandOverHorse x = new HandOverHorse();
        for (int use : new int[] {-1, 2, LEAST, GREATEST}) {
            DUE.is("law(" + use + ", 1, 1, 1, 1)", x.law(use, 1, 1, 1, 1), Due.BEYOND);
        }
        DUE.is("told(1)", x.told(1), 4);
        DUE.is("law(0)", x.law(0, 1, 1, 1, 1), 0);
        DUE.is("law(1)", x.law(1, 1, 1, 1, 1), 1);
    }

    private static void heldIs(int use, int given, int want) {
        HandOverHorse x = new HandOverHorse();
        DUE.is("text(" + use + ") of c", Due.read(x, use, "c"), 1);
        int answer = use == 0 ? x.law(use, given, 0, 0, 0) : x.law(use, 0, 0, given, 0);
        DUE.is("law(" + use + ") of " + given, answer, want);
    }

    private static void lawIsHeld() {
        DUE.says("DATES held within -999 to 999");
        for (int v : new int[] {-999, -998, -1, 0, 1, 998, 999}) {
            heldIs(0, v, v);
        }
        heldIs(0, -1000, -999);
        heldIs(0, 1000, 999);
        heldIs(0, LEAST, -999);
        heldIs(0, GREATEST, 999);
        DUE.says("DOUBTS held within 0 to 999");
        for (int v : new int[] {0, 1, 998, 999}) {
            heldIs(1, v, v);
        }
        heldIs(1, -1, 0);
        heldIs(1, 1000, 999);
        heldIs(1, LEAST, 0);
        heldIs(1, GREATEST, 999);
    }

    private static void lawWithoutTexts() {
        DUE.says("DATES without a TEXT 0");
        HandOverHorse x = new HandOverHorse();
        for (int v : new int[] {0, 1, -1, 999, LEAST, GREATEST}) {
            DUE.is("law(0, " + v + ", ..)", x.law(0, v, v, v, v), 0);
        }
        DUE.says("DOUBTS without a TEXT w, held, too");
        for (int v : new int[] {0, 1, 998, 999}) {
            DUE.is("law(1, " + v + ", ..)", x.law(1, v, 5, 6, 7), v);
        }
        DUE.is("law(1, -1, ..)", x.law(1, -1, 5, 6, 7), 0);
        DUE.is("law(1, 1000, ..)", x.law(1, 1000, 5, 6, 7), 999);
        DUE.is("law(1, least, ..)", x.law(1, LEAST, 5, 6, 7), 0);
        DUE.is("law(1, greatest, ..)", x.law(1, GREATEST, 5, 6, 7), 999);
    }

    private static void lawNamesInOrder() {
        DUE.says("with its NAMES in order as a, b, c, d");
        HandOverHorse x = new HandOverHorse();
        for (int i = 0; i < 4; i++) {
            Due.read(x, 0, "cmkh".substring(i, i + 1));
            DUE.is("DATES, NAME " + i, x.law(0, 11, 22, 33, 44), 11 * (i + 1));
        }
        for (int i = 0; i < 3; i++) {
            Due.read(x, 1, "wkc".substring(i, i + 1));
            DUE.is("DOUBTS, NAME " + i, x.law(1, 11, 22, 33, 44), 11 * (i + 1));
        }
        Due.read(x, 1, "w+k+c");
        DUE.is("DOUBTS has three NAMES: d is none", x.law(1, 1, 2, 3, GREATEST), 6);
    }
}
