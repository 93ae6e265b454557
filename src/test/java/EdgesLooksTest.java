/** Sentences on LOOKS and of promises 7 to 10 that name a boundary case, each by a test of its own. */
public final class EdgesLooksTest {
    private static final Due DUE = new Due("EdgesLooksTest");

    public static void main(String[] args) {
        atMostTwelve();
        oneIsFreeBehindForget();
        oneOverAnother();
        fewStrokes();
        seenFrom1To99();
        sameAndTurnedLooks();
        ofLookByLook();
        ofLookByWhat();
        weightWithoutDoubts();
        weightIsHeld();
        weightIsOfTheOneOver();
        seeFrom1To99();
        forgetUpToNone();
        DUE.end();
    }

    private static void atMostTwelve() {
        DUE.says("LOOKS 0, 1, .. (at most 12): its number. BEYOND. FULL.");
        HandOverHorse x = Walls.plain(3);
        for (int i = 0; i < 12; i++) {
            DUE.is("over " + i, x.over(i % 3, (i + 1) % 3, i + 1), i);
        }
        DUE.is("a 13th", x.over(0, 1, 1), Due.FULL);
        DUE.is("a 14th", x.over(1, 0, 99), Due.FULL);
        DUE.is("over itself ahead of FULL", x.over(0, 0, 1), Due.BEYOND);
        DUE.is("no STROKE ahead of FULL", x.over(3, 0, 1), Due.BEYOND);
        DUE.is("no other STROKE ahead of FULL", x.over(0, 3, 1), Due.BEYOND);
        DUE.is("SEEN 0 ahead of FULL", x.over(0, 1, 0), Due.BEYOND);
        DUE.is("SEEN 100 ahead of FULL", x.over(0, 1, 100), Due.BEYOND);
        DUE.is("count(1)", x.count(1), 12);
        for (int i = 0; i < 12; i++) {
            DUE.is("OVER of " + i, x.ofLook(i, 0), i % 3);
            DUE.is("the other one of " + i, x.ofLook(i, 1), (i + 1) % 3);
            DUE.is("SEEN of " + i, x.ofLook(i, 2), i + 1);
        }
        DUE.is("told(4)", x.told(4), 2);
        DUE.is("told(1)", x.told(1), 5);
    }

    private static void oneIsFreeBehindForget() {
        DUE.says("LOOKS (at most 12), behind forget()");
        HandOverHorse x = Walls.plain(2);
        for (int i = 0; i < 12; i++) {
            x.over(0, 1, 1);
        }
        DUE.is("forget()", x.forget(), 11);
        DUE.is("a 12th", x.over(1, 0, 9), 11);
        DUE.is("it stands", x.ofLook(11, 0), 1);
        DUE.is("a 13th", x.over(1, 0, 9), Due.FULL);
    }

    private static void oneOverAnother() {
        DUE.says("one lies OVER another one; BEYOND: also one over itself");
        HandOverHorse x = Walls.plain(8);
        for (int i = 0; i < 8; i++) {
            DUE.is("over(" + i + ", itself, 5)", x.over(i, i, 5), Due.BEYOND);
        }
        for (int s : new int[] {-1, 8, Integer.MIN_VALUE, Integer.MAX_VALUE}) {
            DUE.is("over(" + s + ", 0, 5)", x.over(s, 0, 5), Due.BEYOND);
            DUE.is("over(0, " + s + ", 5)", x.over(0, s, 5), Due.BEYOND);
            DUE.is("over(" + s + ", itself, 5)", x.over(s, s, 5), Due.BEYOND);
        }
        DUE.is("over(0, 7, 5)", x.over(0, 7, 5), 0);
        DUE.is("over(7, 0, 5)", x.over(7, 0, 5), 1);
    }

    private static void fewStrokes() {
        DUE.says("one STROKE lies OVER another one: none with no or one STROKE");
        DUE.is("over(0, 1, 5) of none", Walls.plain(0).over(0, 1, 5), Due.BEYOND);
        DUE.is("over(0, 0, 5) of one", Walls.plain(1).over(0, 0, 5), Due.BEYOND);
        DUE.is("over(0, 1, 5) of one", Walls.plain(1).over(0, 1, 5), Due.BEYOND);
        DUE.is("over(0, 1, 5) of two", Walls.plain(2).over(0, 1, 5), 0);
    }

    private static void seenFrom1To99() {
        DUE.says("SEEN so well (1 to 99)");
        HandOverHorse x = Walls.plain(2);
        for (int seen : new int[] {0, -1, 100, Integer.MIN_VALUE, Integer.MAX_VALUE}) {
            DUE.is("over(0, 1, " + seen + ")", x.over(0, 1, seen), Due.BEYOND);
        }
        DUE.is("count(1)", x.count(1), 0);
        DUE.is("over(0, 1, 1)", x.over(0, 1, 1), 0);
        DUE.is("over(0, 1, 99)", x.over(0, 1, 99), 1);
        DUE.is("SEEN of 0", x.ofLook(0, 2), 1);
        DUE.is("SEEN of 1", x.ofLook(1, 2), 99);
    }

    private static void sameAndTurnedLooks() {
        DUE.says("A LOOK: its number (also one that is there, or is there turned round)");
        HandOverHorse x = Walls.plain(2);
        DUE.is("over(0, 1, 5)", x.over(0, 1, 5), 0);
        DUE.is("the same", x.over(0, 1, 5), 1);
        DUE.is("turned round", x.over(1, 0, 5), 2);
        DUE.is("count(1)", x.count(1), 3);
    }

    private static void ofLookByLook() {
        DUE.says("Of a LOOK; BEYOND");
        for (int n = 0; n <= 12; n++) {
            HandOverHorse x = Walls.plain(2);
            for (int i = 0; i < n; i++) {
                x.over(1, 0, 50 + i);
            }
            for (int what = 0; what < 4; what++) {
                DUE.is("ofLook(-1, " + what + ") of " + n, x.ofLook(-1, what), Due.BEYOND);
                DUE.is("ofLook(" + n + ", " + what + ") of " + n, x.ofLook(n, what), Due.BEYOND);
            }
            if (n > 0) {
                DUE.is("ofLook(0, 2) of " + n, x.ofLook(0, 2), 50);
                DUE.is("the last of " + n, x.ofLook(n - 1, 2), 49 + n);
            }
            DUE.is("ofLook(least, 0)", x.ofLook(Integer.MIN_VALUE, 0), Due.BEYOND);
            DUE.is("ofLook(greatest, 0)", x.ofLook(Integer.MAX_VALUE, 0), Due.BEYOND);
        }
    }

    private static void ofLookByWhat() {
        DUE.says("0 which lies OVER, 1 over which, 2 how well it is SEEN, 3 WEIGHT. BEYOND.");
        HandOverHorse x = Walls.plain(8);
        x.over(7, 2, 37);
        int[] parts = {7, 2, 37, 37};
        for (int what = 0; what < 4; what++) {
            DUE.is("ofLook(0, " + what + ")", x.ofLook(0, what), parts[what]);
        }
        for (int what : new int[] {-1, 4, 5, Integer.MIN_VALUE, Integer.MAX_VALUE}) {
            DUE.is("ofLook(0, " + what + ")", x.ofLook(0, what), Due.BEYOND);
        }
    }

    private static void weightWithoutDoubts() {
        DUE.says("DOUBTS without a TEXT w");
        HandOverHorse x = Walls.of(69, 59);
        x.change(0, 6, 99);
        x.over(0, 1, 1);
        DUE.is("WEIGHT of SEEN 1", x.ofLook(0, 3), 1);
        x.see(0, 99);
        DUE.is("WEIGHT of SEEN 99", x.ofLook(0, 3), 99);
    }

    private static void weightBy(String doubts, int want) {
        HandOverHorse x = Walls.of(69, 59);
        x.over(0, 1, 9);
        DUE.is("text(1) of " + doubts, Due.read(x, 1, doubts), 1);
        DUE.is("WEIGHT by " + doubts, x.ofLook(0, 3), want);
    }

    private static void weightIsHeld() {
        DUE.says("DOUBTS held within 0 to 999");
        weightBy("w+989", 998);
        weightBy("w+990", 999);
        weightBy("w+991", 999);
        weightBy("w-8", 1);
        weightBy("w-9", 0);
        weightBy("w-10", 0);
        weightBy("0-9999", 0);
        weightBy("9999", 999);
    }

    private static void weightIsOfTheOneOver() {
        DUE.says("w how well SEEN, k KIND of the one that lies OVER, c its CRUST");
        HandOverHorse x = Walls.of(69, 59, 0);
        x.change(0, 6, 11);
        x.change(1, 6, 22);
        x.over(0, 1, 7);
        x.over(1, 0, 8);
        Due.read(x, 1, "w*100+k*20+c");
        DUE.is("WEIGHT of 0 over 1", x.ofLook(0, 3), 700 + 120 + 11);
        DUE.is("WEIGHT of 1 over 0", x.ofLook(1, 3), 800 + 100 + 22);
        x.become(0, 10);
        x.change(0, 6, 0);
        x.see(0, 1);
        DUE.is("WEIGHT when all have changed", x.ofLook(0, 3), 100 + 20);
        x.see(0, 1);
        x.see(1, 1);
        x.seed(-1);
        for (int i = 0; i < 8 && x.ofLook(0, 0) == 0; i++) {
            x.again();
        }
        DUE.is("turned round", x.ofLook(0, 0), 1);
        DUE.is("WEIGHT when it is turned round", x.ofLook(0, 3), 100 + 100 + 22);
    }

    private static void seeFrom1To99() {
        DUE.says("How well a LOOK is SEEN becomes v: what it was. BEYOND.");
        HandOverHorse x = Walls.plain(2);
        DUE.is("see(0, 5) without LOOKS", x.see(0, 5), Due.BEYOND);
        for (int i = 0; i < 12; i++) {
            x.over(0, 1, 20 + i);
        }
        for (int look : new int[] {-1, 12, Integer.MIN_VALUE, Integer.MAX_VALUE}) {
            DUE.is("see(" + look + ", 5)", x.see(look, 5), Due.BEYOND);
        }
        for (int v : new int[] {0, -1, 100, Integer.MIN_VALUE, Integer.MAX_VALUE}) {
            DUE.is("see(11, " + v + ")", x.see(11, v), Due.BEYOND);
        }
        DUE.is("see(11, 1)", x.see(11, 1), 31);
        DUE.is("see(11, 99)", x.see(11, 99), 1);
        DUE.is("see(0, 99)", x.see(0, 99), 20);
        DUE.is("ofLook(0, 2)", x.ofLook(0, 2), 99);
        DUE.is("ofLook(1, 2)", x.ofLook(1, 2), 21);
        DUE.is("ofLook(11, 2)", x.ofLook(11, 2), 99);
    }

    private static void forgetUpToNone() {
        DUE.says("The LOOK that came last is forgotten: how many are left. STATE: there is none.");
        HandOverHorse x = Walls.plain(2);
        DUE.is("forget() of none", x.forget(), Due.STATE);
        for (int i = 0; i < 12; i++) {
            x.over(1, 0, 20 + i);
        }
        for (int left = 11; left >= 0; left--) {
            DUE.is("forget()", x.forget(), left);
            DUE.is("the last is gone", x.ofLook(left, 2), Due.BEYOND);
            DUE.is("the one ahead stays", x.ofLook(left - 1, 2), left == 0 ? Due.BEYOND : 19 + left);
        }
        DUE.is("orders() without LOOKS", x.orders(), 2);
        DUE.is("forget() of none", x.forget(), Due.STATE);
        DUE.is("count(1)", x.count(1), 0);
        DUE.is("told(3)", x.told(3), 2);
        DUE.is("over(0, 1, 1)", x.over(0, 1, 1), 0);
        DUE.is("forget() of one", x.forget(), 0);
    }
}
