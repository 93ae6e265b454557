/** Promises 35 to 40: image, restore, tell, check, count, told. */
public final class ImagesTest {
    private static final Due DUE = new Due("ImagesTest");

    public static void main(String[] args) {
        image();
        restoreBringsBack();
        restoreLeaves();
        tell();
        check();
        count();
        told();
        DUE.end();
    }

    private static void image() {
        HandOverHorse x = new HandOverHorse();
        DUE.is("restore() without an IMAGE", x.restore(), Due.NONE);
        DUE.is("image() of nothing", x.image(), 1);
        x.stroke(0, 0, 0);
        DUE.is("image() in place of it", x.image(), 2);
        x.stroke(0, 0, 0);
        DUE.is("restore()", x.restore(), 1);
        DUE.is("how often is not restored", x.image(), 3);
        x.stroke(0, 0, 0);
        DUE.is("restore() once more", x.restore(), 1);
        DUE.is("restore() stays", x.restore(), 1);
        HandOverHorse y = new HandOverHorse();
        y.image();
        y.stroke(0, 0, 0);
        DUE.is("restore() of nothing", y.restore(), 0);
        DUE.is("count(0)", y.count(0), 0);
    }

    private static void restoreBringsBack() {
        HandOverHorse x = new HandOverHorse();
        x.stroke(41, 2, 3);
        x.stroke(52, 4, 5);
        for (int what = 4; what <= 6; what++) {
            x.change(0, what, 60 + what);
        }
        x.over(0, 1, 44);
        x.over(1, 0, 55);
        Due.read(x, 0, "c");
        Due.read(x, 1, "w+1");
        Due.feed(x, "k+9");
        x.tell(0);
        x.tell(1);
        x.seed(1234);
        x.image();
        x.become(0, 69);
        x.become(1, 0);
        for (int what = 2; what <= 6; what++) {
            x.change(0, what, 1);
        }
        x.stroke(0, 0, 0);
        x.forget();
        x.see(0, 1);
        x.again();
        x.text(0);
        Due.read(x, 1, "7");
        Due.feed(x, "zzzz");
        x.check();
        x.tell(9);
        x.seed(5);
        DUE.is("restore()", x.restore(), 2);
        int[] parts = {4, 1, 2, 3, 64, 65, 66};
        for (int what = 0; what < 7; what++) {
            DUE.is("ofStroke(0, " + what + ")", x.ofStroke(0, what), parts[what]);
        }
        DUE.is("ofStroke(1, 0)", x.ofStroke(1, 0), 5);
        DUE.is("ofStroke(2, 0)", x.ofStroke(2, 0), Due.BEYOND);
        DUE.is("numbers of STROKES, by a voice", x.voice(1, 0, 0), 3);
        DUE.is("count(1)", x.count(1), 2);
        DUE.is("ofLook(0, 0)", x.ofLook(0, 0), 0);
        DUE.is("ofLook(0, 2)", x.ofLook(0, 2), 44);
        DUE.is("ofLook(1, 0)", x.ofLook(1, 0), 1);
        DUE.is("DATES", x.law(0, 33, 0, 0, 0), 33);
        DUE.is("DOUBTS", x.law(1, 33, 0, 0, 0), 34);
        DUE.is("THE TAPE", x.count(2), 3);
        DUE.is("z", x.count(5), 1234);
        DUE.is("numbers that wait", x.count(3), 2);
        x.forget();
        x.forget();
        DUE.is("are those that were told", x.check(), 0);
        DUE.is("THE TAPE's bytes", x.text(0), 1);
        DUE.is("law of THE TAPE", x.law(0, 0, 0, 4, 0), 13);
        DUE.is("the IMAGE stays", x.restore(), 2);
        DUE.is("DATES of the IMAGE once more", x.law(0, 33, 0, 0, 0), 33);
        DUE.is("LOOKS of the IMAGE once more", x.count(1), 2);
        x.change(0, 3, 77);
        x.restore();
        DUE.is("what is changed does not change the IMAGE", x.ofStroke(0, 3), 3);
    }

    private static void restoreLeaves() {
        HandOverHorse x = new HandOverHorse();
        x.stroke(0, 0, 0);
        x.image();
        x.sheet(0, 8, 1);
        x.put(0, 0, 5);
        x.voice(0, 3, 1);
        x.stroke(99, 0, 0);
        x.restore();
        DUE.is("THE TRACE stays", x.count(4), 4);
        DUE.is("told() stays", x.told(1), 1);
        DUE.is("SHEETS stay", x.judge(0), 1);
        x.image();
        x.sheet(0, 0, 0);
        x.restore();
        DUE.is("SHEETS stay missing", x.judge(0), Due.NONE);
    }

    private static void tell() {
        HandOverHorse x = new HandOverHorse();
        for (int i = 1; i <= 20; i++) {
            DUE.is("tell " + i, x.tell(i == 3 ? Integer.MIN_VALUE : i), i);
        }
        DUE.is("a 21st", x.tell(0), Due.FULL);
        DUE.is("count(3)", x.count(3), 20);
        DUE.is("check(): too many", x.check(), 1);
        DUE.is("none wait then", x.count(3), 0);
        DUE.is("tell once more", x.tell(5), 1);
    }

    private static void checkIs(String what, HandOverHorse x, int answer, int... row) {
        for (int v : row) {
            x.tell(v);
        }
        DUE.is("check(): " + what, x.check(), answer);
        DUE.is("none wait then: " + what, x.count(3), 0);
    }

    private static void check() {
        HandOverHorse x = new HandOverHorse();
        checkIs("nothing of nothing", x, 0);
        checkIs("too many", x, 1, 0);
        for (int i = 0; i < 3; i++) {
            x.stroke(0, 0, 0);
        }
        checkIs("the first lacks", x, 1);
        checkIs("an order", x, 0, 2, 0, 1);
        checkIs("the third lacks", x, 3, 2, 0);
        checkIs("too many", x, 4, 2, 0, 1, 2);
        checkIs("too many, and more", x, 4, 2, 0, 1, 7, 7);
        checkIs("no STROKE", x, 2, 2, 3, 1);
        checkIs("no STROKE", x, 1, -1, 0, 1);
        checkIs("no STROKE", x, 1, Integer.MAX_VALUE);
        checkIs("there ahead", x, 3, 2, 0, 2);
        x.over(0, 1, 1);
        checkIs("over one not ahead", x, 2, 2, 0, 1);
        checkIs("it holds", x, 0, 1, 2, 0);
        x.over(2, 0, 1);
        checkIs("over one not ahead", x, 2, 1, 2, 0);
        checkIs("it holds", x, 0, 1, 0, 2);
        x.over(1, 2, 1);
        checkIs("a ring", x, 1, 1, 0, 2);
    }

    private static void count() {
        HandOverHorse x = new HandOverHorse();
        x.stroke(0, 0, 0);
        x.stroke(0, 0, 0);
        x.over(0, 1, 1);
        Due.feed(x, "abc");
        for (int i = 0; i < 4; i++) {
            x.tell(0);
        }
        x.voice(0, 1, 0);
        x.seed(-9);
        int[] counts = {2, 1, 3, 4, 2, -9};
        for (int what = 0; what < 6; what++) {
            DUE.is("count(" + what + ")", x.count(what), counts[what]);
        }
        DUE.is("count(6)", x.count(6), Due.BEYOND);
        DUE.is("count(-1)", x.count(-1), Due.BEYOND);
    }

    private static void told() {
        HandOverHorse x = new HandOverHorse();
        DUE.is("told(0)", x.told(0), Due.BEYOND);
        DUE.is("told(6)", x.told(6), Due.BEYOND);
        DUE.is("told(-1)", x.told(-1), Due.BEYOND);
        DUE.is("told(1): those count, too", x.told(1), 3);
        DUE.is("told(1) changes nothing", x.told(1), 3);
        x.restore();
        x.trace(0);
        x.forget();
        for (int i = 0; i < 21; i++) {
            x.tell(0);
        }
        x.stroke(0, 0, 0);
        x.as(0, 1);
        x.as(0, 2);
        x.as(0, 3);
        int[] told = {0, 3, 2, 1, 1, 3};
        for (int k = 1; k <= 5; k++) {
            DUE.is("told(" + k + ")", x.told(k), told[k]);
        }
    }
}
