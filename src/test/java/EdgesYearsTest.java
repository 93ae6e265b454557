/** Sentences on SPANS and of promises 18 to 20 that name a boundary case, each by a test of its own. */
public final class EdgesYearsTest {
    private static final Due DUE = new Due("EdgesYearsTest");

    public static void main(String[] args) {
        spanByStrokeAndWhat();
        spanWithoutLooks();
        spanOfAllYears();
        aYearLaterAtLeast();
        chainsThatJustFit();
        looksToldInAnyRow();
        noneByEarlyAndLate();
        noneByRings();
        noneOfOneIsNoneOfAll();
        spanHoldsDatesToo();
        testByStrokeAndYear();
        testOutsideOfEarlyAndLate();
        testThatJustFits();
        testMendsItsOwn();
        testChangesNothing();
        widthOfAll();
        nextByWhat();
        nextWithoutStrokes();
        nextWithoutSpans();
        nextOfOne();
        nextOfSeveralTheLeast();
        nextAsksLeastMiddleAndGreatest();
        middleIsCut();
        nextFollowsChanges();
        DUE.end();
    }

    private static void spanIs(String what, HandOverHorse x, int stroke, int least, int greatest) {
        DUE.is(what + ": span(" + stroke + ", 0)", x.span(stroke, 0), least);
        DUE.is(what + ": span(" + stroke + ", 1)", x.span(stroke, 1), greatest);
    }

    private static void spanByStrokeAndWhat() {
        DUE.says("SPAN of a STROKE: what 0 the least, 1 the greatest YEAR. BEYOND.");
        for (int n = 0; n <= 8; n++) {
            HandOverHorse x = Walls.plain(n);
            for (int s : new int[] {-1, n, Integer.MIN_VALUE, Integer.MAX_VALUE}) {
                DUE.is("span(" + s + ", 0) of " + n, x.span(s, 0), Due.BEYOND);
                DUE.is("span(" + s + ", 1) of " + n, x.span(s, 1), Due.BEYOND);
            }
            if (n > 0) {
                spanIs("the last of " + n, x, n - 1, 0, 9999);
                for (int what : new int[] {-1, 2, Integer.MIN_VALUE, Integer.MAX_VALUE}) {
                    DUE.is("span(0, " + what + ") of " + n, x.span(0, what), Due.BEYOND);
                }
            }
        }
        DUE.says("SPAN: BEYOND is asked ahead of NONE");
        HandOverHorse x = Walls.told(new int[] {9}, new int[] {8});
        DUE.is("span(0, 0)", x.span(0, 0), Due.NONE);
        DUE.is("span(1, 0)", x.span(1, 0), Due.BEYOND);
        DUE.is("span(-1, 0)", x.span(-1, 0), Due.BEYOND);
        DUE.is("span(0, 2)", x.span(0, 2), Due.BEYOND);
        DUE.is("span(0, -1)", x.span(0, -1), Due.BEYOND);
        DUE.is("told(2)", x.told(2), 1);
        DUE.is("told(1)", x.told(1), 4);
    }

    private static void spanWithoutLooks() {
        DUE.says("YEARS for all STROKES, each within its EARLY and LATE");
        HandOverHorse x = Walls.told(new int[] {0, 17, 9999, 0}, new int[] {9999, 18, 9999, 0});
        spanIs("at first", x, 0, 0, 9999);
        spanIs("as told", x, 1, 17, 18);
        spanIs("the last YEAR alone", x, 2, 9999, 9999);
        spanIs("the first YEAR alone", x, 3, 0, 0);
    }

    private static void spanOfAllYears() {
        DUE.says("within its EARLY and LATE (0 to 9999), a YEAR later at least");
        HandOverHorse x = Walls.chain(8);
        for (int i = 0; i < 8; i++) {
            spanIs("a chain of 8", x, i, i, 9992 + i);
        }
    }

    private static void aYearLaterAtLeast() {
        DUE.says("for each LOOK the one OVER is a YEAR later at least than the other one");
        HandOverHorse x = Walls.told(new int[] {10, 10}, new int[] {20, 20});
        x.over(0, 1, 1);
        spanIs("0 over 1", x, 0, 11, 20);
        spanIs("0 over 1", x, 1, 10, 19);
        Walls.within(x, 0, 10, 11);
        spanIs("just fits", x, 0, 11, 11);
        spanIs("just fits", x, 1, 10, 10);
        Walls.within(x, 0, 10, 10);
        DUE.is("the same YEAR: none", x.span(0, 0), Due.NONE);
        Walls.within(x, 0, 21, 30);
        spanIs("later anyway", x, 0, 21, 30);
        spanIs("later anyway", x, 1, 10, 20);
        Walls.within(x, 0, 20, 30);
        spanIs("may be the same", x, 0, 20, 30);
        spanIs("may be the same", x, 1, 10, 20);
        Walls.within(x, 0, 20, 20);
        spanIs("the last YEAR of both", x, 1, 10, 19);
    }

    private static void chainsThatJustFit() {
        DUE.says("each within its EARLY and LATE, so that for each LOOK ..: in n YEARS a chain of n");
        for (int n = 2; n <= 8; n++) {
            HandOverHorse x = Walls.chain(n);
            for (int i = 0; i < n; i++) {
                Walls.within(x, i, 100, 99 + n);
            }
            for (int i = 0; i < n; i++) {
                spanIs("a chain of " + n, x, i, 100 + i, 100 + i);
            }
            DUE.is("test(0, 101)", x.test(0, 101), Due.NONE);
            DUE.is("test(0, 100)", x.test(0, 100), 0);
            for (int i = 0; i < n; i++) {
                Walls.within(x, i, 100, 98 + n);
            }
            for (int i = 0; i < n; i++) {
                DUE.is("a YEAR too few", x.span(i, 0), Due.NONE);
                DUE.is("a YEAR too few", x.span(i, 1), Due.NONE);
            }
        }
    }

    private static void looksToldInAnyRow() {
        DUE.says("SPANS: for each LOOK (in whatever row they were told)");
        for (int turn = 0; turn < 4; turn++) {
            HandOverHorse x = Walls.plain(8);
            for (int i = 0; i < 7; i++) {
                int low = turn % 2 == 0 ? i : 6 - i;
                if (turn < 2) {
                    x.over(low + 1, low, 1);
                } else {
                    x.over(low, low + 1, 1);
                }
            }
            for (int i = 0; i < 8; i++) {
                int place = turn < 2 ? i : 7 - i;
                spanIs("chain " + turn, x, i, place, 9992 + place);
            }
            x.change(turn < 2 ? 0 : 7, 4, 500);
            x.change(turn < 2 ? 7 : 0, 5, 600);
            for (int i = 0; i < 8; i++) {
                int place = turn < 2 ? i : 7 - i;
                spanIs("chain " + turn + ", narrower", x, i, 500 + place, 593 + place);
            }
        }
    }

    private static void noneByEarlyAndLate() {
        DUE.says("There may be none.");
        HandOverHorse x = Walls.told(new int[] {5}, new int[] {5});
        spanIs("EARLY is LATE", x, 0, 5, 5);
        x.change(0, 5, 4);
        DUE.is("EARLY behind LATE", x.span(0, 0), Due.NONE);
        DUE.is("EARLY behind LATE", x.span(0, 1), Due.NONE);
        HandOverHorse forged = Walls.of(60);
        spanIs("FORGED, told TO 0", forged, 0, 5000, 9999);
        forged.change(0, 5, 0);
        spanIs("FORGED, told TO 0", forged, 0, 5000, 9999);
    }

    private static void noneByRings() {
        DUE.says("There may be none (LOOKS that go round)");
        for (int n = 2; n <= 8; n++) {
            for (int turn = 0; turn < 2; turn++) {
                HandOverHorse x = Walls.plain(n);
                for (int i = 0; i < n; i++) {
                    int other = (i + 1) % n;
                    x.over(turn == 0 ? i : other, turn == 0 ? other : i, 1);
                }
                DUE.is("a ring of " + n, x.span(0, 0), Due.NONE);
                DUE.is("a ring of " + n, x.span(n - 1, 1), Due.NONE);
                DUE.is("test in a ring of " + n, x.test(0, 5000), Due.NONE);
                DUE.is("next in a ring of " + n, x.next(0), Due.NONE);
                x.forget();
                DUE.is("opened, the least", x.span(0, 0), turn == 0 ? n - 1 : 0);
                DUE.is("opened, the greatest", x.span(0, 1), turn == 0 ? 9999 : 10000 - n);
            }
        }
    }

    private static void noneOfOneIsNoneOfAll() {
        DUE.says("YEARS for all STROKES: NONE: there are no SPANS");
        HandOverHorse x = Walls.plain(8);
        Walls.within(x, 7, 9, 8);
        for (int i = 0; i < 8; i++) {
            DUE.is("span(" + i + ", 0)", x.span(i, 0), Due.NONE);
            DUE.is("span(" + i + ", 1)", x.span(i, 1), Due.NONE);
            DUE.is("test(" + i + ", 8)", x.test(i, 8), i == 7 ? 7 * 9999 : Due.NONE);
        }
        Walls.within(x, 7, 9, 9);
        spanIs("mended", x, 0, 0, 9999);
    }

    private static void spanHoldsDatesToo() {
        DUE.says("each within its EARLY and LATE (with DATES, and by KINDS)");
        HandOverHorse x = Walls.of(49, 59);
        x.change(1, 6, 99);
        spanIs("CHILD", x, 0, 59, 9990);
        spanIs("SOOT", x, 1, 99, 9801);
        Due.read(x, 0, "k*100-c");
        spanIs("CHILD with DATES", x, 0, 459, 9999);
        spanIs("SOOT with DATES", x, 1, 99 + 401, 9999);
        x.over(0, 1, 1);
        spanIs("CHILD over SOOT", x, 0, 501, 9999);
        spanIs("SOOT under CHILD", x, 1, 500, 9998);
    }

    private static void testByStrokeAndYear() {
        DUE.says("a TEST of a STROKE in a YEAR (0 to 9999). BEYOND.");
        for (int n = 0; n <= 8; n++) {
            HandOverHorse x = Walls.plain(n);
            for (int s : new int[] {-1, n, Integer.MIN_VALUE, Integer.MAX_VALUE}) {
                DUE.is("test(" + s + ", 5) of " + n, x.test(s, 5), Due.BEYOND);
            }
            if (n > 0) {
                for (int year : new int[] {-1, 10000, Integer.MIN_VALUE, Integer.MAX_VALUE}) {
                    DUE.is("test(0, " + year + ") of " + n, x.test(0, year), Due.BEYOND);
                }
                DUE.is("test(0, 0) of " + n, x.test(0, 0), (n - 1) * 9999);
                DUE.is("test(last, 9999) of " + n, x.test(n - 1, 9999), (n - 1) * 9999);
            }
        }
        DUE.says("TEST: BEYOND is asked ahead of NONE");
        HandOverHorse x = Walls.plain(2);
        Walls.within(x, 1, 9, 8);
        DUE.is("test(0, 5)", x.test(0, 5), Due.NONE);
        DUE.is("test(0, -1)", x.test(0, -1), Due.BEYOND);
        DUE.is("test(0, 10000)", x.test(0, 10000), Due.BEYOND);
        DUE.is("test(2, 5)", x.test(2, 5), Due.BEYOND);
        DUE.is("test(-1, 5)", x.test(-1, 5), Due.BEYOND);
        DUE.is("told(2)", x.told(2), 1);
        DUE.is("told(1)", x.told(1), 4);
    }

    private static void testOutsideOfEarlyAndLate() {
        DUE.says("EARLY and LATE of it were that YEAR (also one outside of what was told)");
        HandOverHorse x = Walls.told(new int[] {100, 0}, new int[] {200, 300});
        for (int year : new int[] {0, 99, 100, 150, 200, 201, 9999}) {
            DUE.is("test(0, " + year + ")", x.test(0, year), 300);
        }
        HandOverHorse forged = Walls.of(60, 0);
        DUE.is("FORGED in YEAR 0", forged.test(0, 0), 9999);
    }

    private static void testThatJustFits() {
        DUE.says("WIDTH: how much greatest less least are then; NONE: there are no SPANS then");
        HandOverHorse x = Walls.told(new int[] {10, 0}, new int[] {20, 9999});
        x.over(1, 0, 1);
        DUE.is("test(1, 10): 0 would be 9 at most", x.test(1, 10), Due.NONE);
        DUE.is("test(1, 11): 0 is 10", x.test(1, 11), 0);
        DUE.is("test(1, 12): 0 is 10, 11", x.test(1, 12), 1);
        DUE.is("test(1, 20): 0 is 10 to 19", x.test(1, 20), 9);
        DUE.is("test(1, 21): 0 is 10 to 20", x.test(1, 21), 10);
        DUE.is("test(1, 22): 0 is 10 to 20", x.test(1, 22), 10);
        DUE.is("test(0, 9999)", x.test(0, 9999), Due.NONE);
        DUE.is("test(0, 9998): 1 is 9999", x.test(0, 9998), 0);
        DUE.is("test(1, 0)", x.test(1, 0), Due.NONE);
    }

    private static void testMendsItsOwn() {
        DUE.says("EARLY and LATE of it were that YEAR: it has SPANS, though there are none");
        HandOverHorse x = Walls.told(new int[] {9, 0}, new int[] {8, 100});
        DUE.is("span(0, 0)", x.span(0, 0), Due.NONE);
        DUE.is("test(0, 0)", x.test(0, 0), 100);
        DUE.is("test(0, 9999)", x.test(0, 9999), 100);
        DUE.is("test(1, 50)", x.test(1, 50), Due.NONE);
    }

    private static void testChangesNothing() {
        DUE.says("a TEST: EARLY and LATE were that YEAR (they stay as they are)");
        HandOverHorse x = Walls.chain(3);
        for (int i = 0; i < 3; i++) {
            DUE.is("test(" + i + ", 5000)", x.test(i, 5000), i == 1 ? 4999 + 4998 : i == 0 ? 4997 * 2 : 4998 * 2);
            DUE.is("FROM", x.ofStroke(i, 4), 0);
            DUE.is("TO", x.ofStroke(i, 5), 9999);
            DUE.is("EARLY", x.ofStroke(i, 7), 0);
            DUE.is("LATE", x.ofStroke(i, 8), 9999);
            spanIs("behind the TEST", x, i, i, 9997 + i);
        }
        x.next(0);
        for (int i = 0; i < 3; i++) {
            spanIs("behind NEXT", x, i, i, 9997 + i);
        }
    }

    private static void widthOf(int n, int want) {
        HandOverHorse x = Walls.plain(n);
        DUE.is("test(0, 1) of " + n, x.test(0, 1), want);
    }

    private static void widthOfAll() {
        DUE.says("WIDTH: how much greatest less least of all STROKES are together then");
        widthOf(1, 0);
        widthOf(2, 9999);
        widthOf(8, 7 * 9999);
    }

    private static void nextByWhat() {
        DUE.says("NEXT: what 0 the STROKE, 1 its WORST. BEYOND.");
        for (int n = 0; n <= 8; n++) {
            HandOverHorse x = Walls.plain(n);
            for (int what : new int[] {-1, 2, Integer.MIN_VALUE, Integer.MAX_VALUE}) {
                DUE.is("next(" + what + ") of " + n, x.next(what), Due.BEYOND);
            }
            DUE.is("next(0) of " + n, x.next(0), n == 0 ? Due.NONE : 0);
            DUE.is("next(1) of " + n, x.next(1), n == 0 ? Due.NONE : (n - 1) * 9999);
        }
        DUE.says("NEXT: BEYOND is asked ahead of NONE");
        HandOverHorse x = Walls.told(new int[] {9}, new int[] {8});
        DUE.is("next(2)", x.next(2), Due.BEYOND);
        DUE.is("next(-1)", x.next(-1), Due.BEYOND);
        DUE.is("told(2)", x.told(2), 0);
    }

    private static void nextWithoutStrokes() {
        DUE.says("NONE: there are no STROKES");
        HandOverHorse x = Walls.plain(0);
        DUE.is("next(0)", x.next(0), Due.NONE);
        DUE.is("next(1)", x.next(1), Due.NONE);
        DUE.is("next(2): BEYOND is asked ahead", x.next(2), Due.BEYOND);
        x.image();
        x.stroke(0, 0, 0);
        DUE.is("next(0) of one", x.next(0), 0);
        x.restore();
        DUE.is("next(0) when it is gone", x.next(0), Due.NONE);
        DUE.is("told(2)", x.told(2), 3);
    }

    private static void nextWithoutSpans() {
        DUE.says("NONE: no SPANS");
        HandOverHorse x = Walls.told(new int[] {9, 0}, new int[] {8, 9});
        DUE.is("next(0)", x.next(0), Due.NONE);
        DUE.is("next(1)", x.next(1), Due.NONE);
        x.change(0, 5, 9);
        DUE.is("next(0) when there are SPANS", x.next(0), 1);
        DUE.is("next(1) when there are SPANS", x.next(1), 0);
    }

    private static void nextOfOne() {
        DUE.says("NEXT: the STROKE with the least WORST (of one STROKE)");
        HandOverHorse x = Walls.told(new int[] {3}, new int[] {3});
        DUE.is("next(0)", x.next(0), 0);
        DUE.is("next(1)", x.next(1), 0);
        x.change(0, 5, 9999);
        DUE.is("next(0)", x.next(0), 0);
        DUE.is("next(1)", x.next(1), 0);
    }

    private static void nextOfSeveralTheLeast() {
        DUE.says("NEXT: of several the least");
        for (int widest = 0; widest < 8; widest++) {
            int[] froms = new int[8];
            int[] tos = new int[8];
            for (int i = 0; i < 8; i++) {
                tos[i] = i < widest ? 10 : 11;
            }
            HandOverHorse x = Walls.told(froms, tos);
            DUE.is("next(0): the first of the widest, " + widest, x.next(0), widest);
            DUE.is("next(1)", x.next(1), widest * 10 + (7 - widest) * 11);
        }
    }

    private static void nextIs(String what, HandOverHorse x, int stroke, int worst) {
        DUE.is(what + ": next(0)", x.next(0), stroke);
        DUE.is(what + ": next(1)", x.next(1), worst);
    }

    private static void nextAsksLeastMiddleAndGreatest() {
        DUE.says("WORST: the greatest WIDTH of TESTS of it in the least, the middle and the greatest YEAR of its SPAN");
        HandOverHorse least = Walls.told(new int[] {0, 0}, new int[] {10, 100});
        least.over(1, 0, 1);
        // SPANS: 0: 0 to 10; 1: 1 to 100. 1 in 1: 0; in 50, 100: 10. 0 in 0: 99; in 5: 94; in 10: 89.
        nextIs("0 in its least", least, 1, 10);
        DUE.is("test(0, 0)", least.test(0, 0), 99);
        HandOverHorse both = Walls.told(new int[] {0, 0, 0}, new int[] {10, 100, 89});
        both.over(1, 0, 1);
        // 0: 99 + 89; 1: 10 + 89; 2: 10 + 99.
        nextIs("worst in the least is not taken", both, 1, 99);
        HandOverHorse later = Walls.told(new int[] {50, 50, 0}, new int[] {60, 150, 89});
        later.over(1, 0, 1);
        // SPANS: 0: 50 to 60; 1: 51 to 150. 0 in 50: 99 + 89, in 55: 94 + 89, in 60: 89 + 89; 1: 10 + 89; 2: 10 + 99.
        nextIs("the least isn't 0", later, 1, 99);
        later.change(2, 5, 9999);
        // 0 in 50: 99 + 9999; 1: 10 + 9999; 2: 10 + 99.
        nextIs("a wider one", later, 2, 109);
        HandOverHorse alone = Walls.told(new int[] {50, 60}, new int[] {60, 61});
        alone.over(1, 0, 1);
        // SPANS: 0: 50 to 60; 1: 60, 61. 0 in 50, 55: 1; in 60: 0. 1 in 60: 9; in 61: 10.
        nextIs("0 in its least", alone, 0, 1);
        HandOverHorse like = Walls.told(new int[] {50, 0}, new int[] {300, 301});
        like.over(1, 0, 1);
        // SPANS: 0: 50 to 300; 1: 51 to 301. 0 in 50: 250; 1 in 301: 250.
        nextIs("0 in its least, 1 in its greatest", like, 0, 250);
        HandOverHorse greatest = Walls.told(new int[] {0, 90}, new int[] {100, 100});
        greatest.over(1, 0, 1);
        // SPANS: 0: 0 to 99; 1: 90 to 100. 0 in 0, 49: 10; in 99: 0. 1 in 90: 89; in 95: 94; in 100: 99.
        nextIs("1 in its greatest", greatest, 0, 10);
        HandOverHorse middle = Walls.told(new int[] {0, 0, 40, 0}, new int[] {60, 100, 100, 118});
        middle.over(1, 0, 1);
        middle.over(2, 1, 1);
        // SPANS: 0: 0 to 60; 1: 1 to 99; 2: 40 to 100; 3: 0 to 118.
        // 1 in 1: 0 + 60 + 118; in 50: 49 + 49 + 118; in 99: 60 + 0 + 118. 0, 2: 3 and more. 3: 60 + 98 + 60.
        nextIs("1 in its middle", middle, 1, 216);
        middle.change(3, 5, 121);
        nextIs("1 in its middle, a wider one beside it", middle, 3, 218);
    }

    private static void middleIsCut() {
        DUE.says("the middle (of both, cut)");
        // 1 alone lies on others; its SPAN is 1 to 4, its middle 2.
        HandOverHorse x = Walls.told(new int[] {0, 1, 3}, new int[] {1, 4, 5});
        x.over(1, 0, 1);
        x.over(2, 1, 1);
        spanIs("1 between", x, 1, 1, 4);
        DUE.is("test(1, 1)", x.test(1, 1), 0 + 2);
        DUE.is("test(1, 2)", x.test(1, 2), 1 + 2);
        DUE.is("test(1, 3)", x.test(1, 3), 1 + 1);
        DUE.is("test(1, 4)", x.test(1, 4), 1 + 0);
        nextIs("in 2, not in 3", x, 1, 3);
    }

    private static void nextFollowsChanges() {
        DUE.says("NEXT, asked once more when STROKES and LOOKS have changed");
        HandOverHorse x = Walls.told(new int[] {0, 0, 0}, new int[] {10, 20, 30});
        nextIs("the third is widest", x, 2, 30);
        x.change(1, 5, 40);
        nextIs("the second is widest", x, 1, 40);
        x.change(0, 5, 50);
        nextIs("the first is widest", x, 0, 70);
        x.over(1, 0, 1);
        // SPANS: 0: 0 to 39; 1: 1 to 40; 2: 0 to 30. 2: 39 + 39; 0 in 0: 39 + 30; 1 in 40: 39 + 30.
        nextIs("1 over 0", x, 0, 69);
        x.forget();
        x.change(0, 5, 0);
        nextIs("the second once more", x, 1, 30);
    }
}
