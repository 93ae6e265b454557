/** Promises 11 to 13: feed, text, law. */
public final class TextsTest {
    private static final Due DUE = new Due("TextsTest");

    public static void main(String[] args) {
        feed();
        text();
        faults();
        law();
        signs();
        DUE.end();
    }

    private static void feed() {
        HandOverHorse x = new HandOverHorse();
        DUE.is("feed(0, 0)", x.feed(0, 0), Due.BEYOND);
        DUE.is("feed(0, 9)", x.feed(0, 9), Due.BEYOND);
        DUE.is("feed(0, -1)", x.feed(0, -1), Due.BEYOND);
        for (int i = 1; i <= 6; i++) {
            DUE.is("feed(.., 8)", x.feed(0x3030303030303030L, 8), 8 * i);
        }
        DUE.is("feed(.., 3) on 48", x.feed(0x303030L, 3), Due.FULL);
        DUE.is("feed(.., 9) on 48", x.feed(0, 9), Due.BEYOND);
        DUE.is("feed(.., 2) on 48", x.feed(0x3030L, 2), 50);
        DUE.is("feed(.., 1) on 50", x.feed(0x30L, 1), Due.FULL);
        DUE.is("count(2)", x.count(2), 50);
        DUE.is("text(0): the fifth digit", x.text(0), -14);
        DUE.is("the lowest byte first, bytes above n left out", x.feed(0x7f7f32632d39L, 3), 3);
        DUE.is("text(0) of 9-c", x.text(0), 1);
        DUE.is("law(0) of 9-c", x.law(0, 4, 0, 0, 0), 5);
        DUE.is("eight bytes, the uppermost too", x.feed(0x2d2d2d2d2d2d2d2dL | 0xffL << 56, 8), 8);
        DUE.is("text(1)", x.text(1), -10);
    }

    private static void text() {
        HandOverHorse x = new HandOverHorse();
        DUE.is("text(0) of nothing", x.text(0), -10);
        Due.feed(x, "7");
        DUE.is("text(2)", x.text(2), Due.BEYOND);
        DUE.is("text(-1)", x.text(-1), Due.BEYOND);
        DUE.is("the tape stays", x.count(2), 1);
        DUE.is("text(1)", x.text(1), 1);
        DUE.is("the tape is empty", x.count(2), 0);
        DUE.is("law(1)", x.law(1, 0, 0, 0, 0), 7);
        DUE.is("law(0) has none", x.law(0, 1, 1, 1, 1), 0);
        DUE.is("a FAULT", Due.read(x, 1, "8+"), -12);
        DUE.is("the tape is empty, too", x.count(2), 0);
        DUE.is("the one ahead stays", x.law(1, 0, 0, 0, 0), 7);
        DUE.is("another one", Due.read(x, 1, "k"), 1);
        DUE.is("in place of the one ahead", x.law(1, 0, 3, 0, 0), 3);
        DUE.is("a FAULT is no ERROR", x.told(1), 2);
        String fifty = "1+1+1+1+1+1+1+1+1+1+1+1+1+1+1+1+1+1+1+1+1+1+1+1+10";
        DUE.is("50 bytes", Due.read(x, 0, fifty), 1);
        DUE.is("law of 50 bytes", x.law(0, 0, 0, 0, 0), 34);
        String ends = fifty.substring(0, 49) + "-";
        DUE.is("50 bytes that end too early", Due.read(x, 0, ends), -60);
    }

    private static void fault(int use, String text, int place) {
        HandOverHorse x = new HandOverHorse();
        DUE.is("FAULT of " + text, Due.read(x, use, text), -10 - place);
    }

    private static void faults() {
        fault(0, "w", 0);
        fault(1, "m", 0);
        fault(1, "h", 0);
        fault(0, " 1", 0);
        fault(0, "1 ", 1);
        fault(0, "12345", 4);
        fault(0, "c1", 1);
        fault(0, "1c", 1);
        fault(0, "cc", 1);
        fault(0, "()", 1);
        fault(0, "(1", 2);
        fault(0, "1)", 1);
        fault(0, "(1))", 3);
        fault(0, "1<2<3", 3);
        fault(0, "1=2>3", 3);
        fault(0, "(1<2)=3=4", 7);
        fault(0, "1<2&3<4<5", 7);
        fault(0, "-1", 0);
        fault(0, "1+-1", 2);
        fault(0, "1!", 1);
        fault(0, "!", 1);
        fault(0, "!+", 1);
        fault(0, "!!!!!!1", 5);
        fault(0, "((((((1", 5);
        fault(0, "!(!(!(1", 5);
        fault(0, "(((((1))))", 10);
        fault(0, "1||2", 2);
        fault(0, "1<=2", 2);
        fault(0, "1,2", 1);
        fault(0, "1" + (char) 200, 1);
        fault(0, "" + (char) 0, 0);
        fault(1, "w+C", 2);
    }

    private static void value(String text, int value) {
        HandOverHorse x = new HandOverHorse();
        DUE.is("text(0) of " + text, Due.read(x, 0, text), 1);
        DUE.is("law(0, 2, 3, 4, 5) of " + text, x.law(0, 2, 3, 4, 5), value);
    }

    private static void law() {
        HandOverHorse x = new HandOverHorse();
        DUE.is("law(2)", x.law(2, 0, 0, 0, 0), Due.BEYOND);
        DUE.is("law(-1)", x.law(-1, 0, 0, 0, 0), Due.BEYOND);
        DUE.is("law(1) without a TEXT, held above", x.law(1, 1000, 0, 0, 0), 999);
        DUE.is("law(1) without a TEXT, held below", x.law(1, -5, 0, 0, 0), 0);
        Due.read(x, 0, "c*1000+m*100+k*10+h-5000");
        DUE.is("law(0), NAMES in order", x.law(0, 5, 1, 2, 3), 123);
        Due.read(x, 1, "w*100+k*10+c");
        DUE.is("law(1), NAMES in order", x.law(1, 1, 2, 3, 9), 123);
        DUE.is("law(0) held above", x.law(0, 9, 0, 0, 0), 999);
        DUE.is("law(0) held below", x.law(0, 0, 0, 0, 0), -999);
        DUE.is("law(1) held above", x.law(1, 10, 0, 0, 0), 999);
        DUE.is("law(1) held below", x.law(1, -1, 0, 0, 0), 0);
        Due.read(x, 0, "(c*m=0)+2*(c+m<0)");
        DUE.is("ints that wrap", x.law(0, 65536, 65536, 0, 0), 1);
        DUE.is("ints that wrap", x.law(0, Integer.MAX_VALUE, 2, 0, 0), 2);
        Due.read(x, 0, "(c/m=c)+10*(c%m=0)");
        DUE.is("the least by -1", x.law(0, Integer.MIN_VALUE, -1, 0, 0), 11);
    }

    private static void signs() {
        value("1+2*3", 7);
        value("(1+2)*3", 9);
        value("10-3-2", 5);
        value("100/7/2", 7);
        value("17%10%4", 3);
        value("2*3%4", 2);
        value("(0-7)/2", -3);
        value("(0-7)%3", -1);
        value("5/0", 0);
        value("5%0", 0);
        value("c/(m-3)+1", 1);
        value("5|0", 1);
        value("0|0", 0);
        value("7&2", 1);
        value("7&0", 0);
        value("1|0&0", 1);
        value("0&1|1", 1);
        value("3<4", 1);
        value("4<4", 0);
        value("4=4", 1);
        value("4=5", 0);
        value("5>4", 1);
        value("4>4", 0);
        value("1+1<3", 1);
        value("1<2&2<1", 0);
        value("!0", 1);
        value("!7", 0);
        value("!!7", 1);
        value("!0+5", 6);
        value("!c*5", 0);
        value("!(c-2)", 1);
        value("!!!!!0", 1);
        value("(((((9)))))", 9);
        value("!1+!0+(((((9)))))+!!!!!0", 11);
        value("0007", 7);
        value("c", 2);
        value("m", 3);
        value("k", 4);
        value("h", 5);
    }
}
