/** Promises 7 to 10: over, ofLook, see, forget. */
public final class LooksTest {
    private static final Due DUE = new Due("LooksTest");

    public static void main(String[] args) {
        over();
        ofLook();
        see();
        forget();
        DUE.end();
    }

    private static HandOverHorse three() {
        HandOverHorse x = new HandOverHorse();
        x.stroke(13, 0, 10);
        x.stroke(25, 1, 20);
        x.stroke(68, 2, 30);
        return x;
    }

    private static void over() {
        HandOverHorse x = three();
        DUE.is("over(0, 0, 5)", x.over(0, 0, 5), Due.BEYOND);
        DUE.is("over(-1, 0, 5)", x.over(-1, 0, 5), Due.BEYOND);
        DUE.is("over(0, -1, 5)", x.over(0, -1, 5), Due.BEYOND);
        DUE.is("over(3, 0, 5)", x.over(3, 0, 5), Due.BEYOND);
        DUE.is("over(0, 3, 5)", x.over(0, 3, 5), Due.BEYOND);
        DUE.is("over(0, 1, 0)", x.over(0, 1, 0), Due.BEYOND);
        DUE.is("over(0, 1, 100)", x.over(0, 1, 100), Due.BEYOND);
        DUE.is("count(1)", x.count(1), 0);
        for (int i = 0; i < 12; i++) {
            DUE.is("look " + i, x.over(i % 2, 1 - i % 2, i == 0 ? 1 : 99), i);
        }
        DUE.is("a 13th", x.over(0, 1, 5), Due.FULL);
        DUE.is("a 13th that is beyond", x.over(0, 0, 5), Due.BEYOND);
        DUE.is("count(1)", x.count(1), 12);
    }

    private static void ofLook() {
        HandOverHorse x = three();
        x.over(2, 0, 37);
        x.change(2, 6, 21);
        x.change(0, 6, 5);
        int[] parts = {2, 0, 37, 37};
        for (int what = 0; what < 4; what++) {
            DUE.is("ofLook(0, " + what + ")", x.ofLook(0, what), parts[what]);
        }
        DUE.is("ofLook(0, 4)", x.ofLook(0, 4), Due.BEYOND);
        DUE.is("ofLook(0, -1)", x.ofLook(0, -1), Due.BEYOND);
        DUE.is("ofLook(1, 0)", x.ofLook(1, 0), Due.BEYOND);
        DUE.is("ofLook(-1, 0)", x.ofLook(-1, 0), Due.BEYOND);
        DUE.is("DOUBTS", Due.read(x, 1, "w+k*100+c"), 1);
        DUE.is("WEIGHT by DOUBTS of the one OVER", x.ofLook(0, 3), 37 + 600 + 21);
        DUE.is("DOUBTS", Due.read(x, 1, "w*w"), 1);
        DUE.is("WEIGHT is 999 at most", x.ofLook(0, 3), 999);
        DUE.is("DOUBTS", Due.read(x, 1, "0-w"), 1);
        DUE.is("WEIGHT is 0 at least", x.ofLook(0, 3), 0);
    }

    private static void see() {
        HandOverHorse x = three();
        x.over(2, 0, 37);
        x.over(1, 0, 40);
        DUE.is("see(0, 99)", x.see(0, 99), 37);
        DUE.is("see(0, 1)", x.see(0, 1), 99);
        DUE.is("see(0, 0)", x.see(0, 0), Due.BEYOND);
        DUE.is("see(0, 100)", x.see(0, 100), Due.BEYOND);
        DUE.is("see(2, 5)", x.see(2, 5), Due.BEYOND);
        DUE.is("see(-1, 5)", x.see(-1, 5), Due.BEYOND);
        DUE.is("ofLook(0, 2)", x.ofLook(0, 2), 1);
        DUE.is("ofLook(1, 2)", x.ofLook(1, 2), 40);
    }

    private static void forget() {
        HandOverHorse x = three();
        x.over(2, 0, 37);
        x.over(1, 0, 40);
        DUE.is("forget()", x.forget(), 1);
        DUE.is("the first is left", x.ofLook(0, 0), 2);
        DUE.is("the last is gone", x.ofLook(1, 0), Due.BEYOND);
        DUE.is("forget()", x.forget(), 0);
        DUE.is("forget() of none", x.forget(), Due.STATE);
        DUE.is("told(3)", x.told(3), 1);
        DUE.is("over once more", x.over(0, 1, 1), 0);
    }
}
