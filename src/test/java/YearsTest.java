/** Promises 18 to 20: span, test, next. */
public final class YearsTest {
    private static final Due DUE = new Due("YearsTest");

    public static void main(String[] args) {
        span();
        test();
        next();
        DUE.end();
    }

    private static HandOverHorse told(int[] froms, int[] tos) {
        HandOverHorse x = new HandOverHorse();
        for (int i = 0; i < froms.length; i++) {
            x.stroke(0, 0, 0);
            x.change(i, 4, froms[i]);
            x.change(i, 5, tos[i]);
        }
        return x;
    }

    private static void spanIs(String what, HandOverHorse x, int stroke, int least, int greatest) {
        DUE.is(what + ": span(" + stroke + ", 0)", x.span(stroke, 0), least);
        DUE.is(what + ": span(" + stroke + ", 1)", x.span(stroke, 1), greatest);
    }

    private static void span() {
        HandOverHorse x = told(new int[] {100, 50, 0}, new int[] {200, 150, 140});
        DUE.is("span(3, 0)", x.span(3, 0), Due.BEYOND);
        DUE.is("span(-1, 0)", x.span(-1, 0), Due.BEYOND);
        DUE.is("span(0, 2)", x.span(0, 2), Due.BEYOND);
        DUE.is("span(0, -1)", x.span(0, -1), Due.BEYOND);
        spanIs("without LOOKS", x, 0, 100, 200);
        x.over(2, 1, 1);
        x.over(1, 0, 1);
        spanIs("a chain", x, 0, 100, 138);
        spanIs("a chain", x, 1, 101, 139);
        spanIs("a chain", x, 2, 102, 140);
        x.change(2, 5, 102);
        spanIs("one way only", x, 0, 100, 100);
        spanIs("one way only", x, 2, 102, 102);
        x.change(2, 5, 101);
        DUE.is("none: too narrow", x.span(0, 0), Due.NONE);
        DUE.is("BEYOND ahead of NONE", x.span(0, 2), Due.BEYOND);
        x.change(2, 5, 9999);
        x.over(0, 2, 1);
        DUE.is("none: a ring", x.span(1, 1), Due.NONE);
        HandOverHorse y = told(new int[] {9, 0}, new int[] {8, 9});
        DUE.is("none: FROM behind TO of another one", y.span(1, 0), Due.NONE);
        y.change(0, 5, 9);
        spanIs("one YEAR", y, 0, 9, 9);
        DUE.is("told(2)", y.told(2), 1);
    }

    private static void test() {
        HandOverHorse x = told(new int[] {0, 0, 500}, new int[] {100, 100, 600});
        x.over(1, 0, 1);
        DUE.is("test(3, 0)", x.test(3, 0), Due.BEYOND);
        DUE.is("test(0, -1)", x.test(0, -1), Due.BEYOND);
        DUE.is("test(0, 10000)", x.test(0, 10000), Due.BEYOND);
        DUE.is("test(0, 40): 1 is 41 to 100, 2 as told", x.test(0, 40), 59 + 100);
        DUE.is("test(1, 40): 0 is 0 to 39", x.test(1, 40), 39 + 100);
        DUE.is("test(0, 100): none left for 1", x.test(0, 100), Due.NONE);
        DUE.is("test(1, 0)", x.test(1, 0), Due.NONE);
        DUE.is("test(1, 9999): outside of what was told", x.test(1, 9999), 100 + 100);
        DUE.is("nothing has changed", x.span(1, 1), 100);
        HandOverHorse one = told(new int[] {5}, new int[] {9});
        DUE.is("WIDTH 0", one.test(0, 7), 0);
        x.change(2, 4, 601);
        DUE.is("another one has none", x.test(0, 40), Due.NONE);
        DUE.is("but by its own test", x.test(2, 0), 99 + 99);
    }

    private static void next() {
        HandOverHorse x = new HandOverHorse();
        DUE.is("next(0) without STROKES", x.next(0), Due.NONE);
        DUE.is("next(2) without STROKES", x.next(2), Due.BEYOND);
        DUE.is("next(-1)", x.next(-1), Due.BEYOND);
        x = told(new int[] {0, 0, 0}, new int[] {10, 30, 30});
        DUE.is("next(0): the widest, of several the least", x.next(0), 1);
        DUE.is("next(1): what the others leave", x.next(1), 40);
        x.over(2, 1, 1);
        // SPANS: 0: 0 to 10; 1: 0 to 29; 2: 1 to 30. 1 in 0: 10 + 29; in 14: 10 + 15; in 29: 10.
        // 2 in 1: 10; in 15: 10 + 14; in 30: 10 + 29. 0 in any: 29 + 29.
        DUE.is("next(0) with a LOOK", x.next(0), 1);
        DUE.is("next(1) with a LOOK", x.next(1), 39);
        x.change(2, 5, 20);
        x.change(1, 4, 3);
        // SPANS: 1: 3 to 19; 2: 4 to 20. 1 in 3: 16 for 2; 2 in 20: 16 for 1.
        DUE.is("next(0), narrower", x.next(0), 1);
        DUE.is("next(1), narrower", x.next(1), 26);
        x.over(1, 2, 1);
        DUE.is("next(0) without SPANS", x.next(0), Due.NONE);
        DUE.is("next(1) without SPANS", x.next(1), Due.NONE);
        HandOverHorse y = told(new int[] {0, 0, 0}, new int[] {100, 100, 100});
        y.over(1, 0, 1);
        y.over(2, 1, 1);
        // 1 in 1: 0 for 0, 98 for 2; in 50: 49 and 49; in 99: 98. 0 in 0: 1 is 1 to 99, 2 is 2 to 100: 196.
        DUE.is("next(0): the one between", y.next(0), 1);
        DUE.is("next(1): the one between", y.next(1), 98);
        HandOverHorse w = told(new int[] {0, 0, 50}, new int[] {50, 100, 100});
        w.over(1, 0, 1);
        w.over(2, 1, 1);
        // SPAN of 1: 1 to 99. In 1: 0 and 50; in 50: 49 and 49; in 99: 50 and 0.
        DUE.is("next(0): worst in the middle", w.next(0), 1);
        DUE.is("next(1): worst in the middle", w.next(1), 98);
        HandOverHorse z = told(new int[] {40, 0, 60}, new int[] {60, 100, 60});
        z.over(1, 0, 1);
        z.over(2, 1, 1);
        // SPANS: 0: 40 to 58; 1: 41 to 59; 2: 60. 1 in 59: 18; 0 in 40: 18; 2 in 60: 36.
        DUE.is("next(0): like ones", z.next(0), 0);
        DUE.is("next(1): like ones", z.next(1), 18);
    }
}
