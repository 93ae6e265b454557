/** Sentences on ORDERS and of promises 14 to 17 that name a boundary case, each by a test of its own. */
public final class EdgesOrdersTest {
    private static final Due DUE = new Due("EdgesOrdersTest");

    public static void main(String[] args) {
        ordersFromNoneToEight();
        aLookHolds();
        ordersWithTwelveLooks();
        ordersAreNone();
        ordersFollowChanges();
        sureOfTwo();
        sureOverOthers();
        sureWithoutAny();
        sureWithoutLooks();
        wrongWithoutLooks();
        wrongByWhat();
        wrongOfRings();
        wrongOfTwelve();
        wrongWithWeightsOfZero();
        wrongOfSeveral();
        wrongOfTwoRings();
        bestByPlace();
        bestIsTheFirst();
        bestFollowsChanges();
        DUE.end();
    }

    private static void ordersFromNoneToEight() {
        DUE.says("ORDERS: how many hold all LOOKS (1 without STROKES)");
        int[] rows = {1, 1, 2, 6, 24, 120, 720, 5040, 40320};
        for (int n = 0; n <= 8; n++) {
            DUE.is("orders() of " + n + " without LOOKS", Walls.plain(n).orders(), rows[n]);
            DUE.is("orders() of a chain of " + n, Walls.chain(n).orders(), 1);
        }
        HandOverHorse x = Walls.plain(8);
        x.over(7, 0, 1);
        DUE.is("orders() of 8 with one LOOK", x.orders(), 20160);
        x.over(6, 0, 1);
        DUE.is("orders() of 8 with two LOOKS", x.orders(), 13440);
    }

    private static void orderIs(String what, HandOverHorse x, int... order) {
        for (int i = 0; i < order.length; i++) {
            DUE.is(what + ": best(" + i + ")", x.best(i), order[i]);
        }
    }

    private static void aLookHolds() {
        DUE.says("A LOOK holds in it, if the one OVER stands behind the other one.");
        HandOverHorse x = Walls.plain(2);
        x.over(0, 1, 1);
        DUE.is("orders()", x.orders(), 1);
        orderIs("0 over 1", x, 1, 0);
        DUE.is("wrong(1)", x.wrong(1), 0);
        HandOverHorse y = Walls.plain(2);
        y.over(1, 0, 1);
        DUE.is("orders()", y.orders(), 1);
        orderIs("1 over 0", y, 0, 1);
    }

    private static void ordersWithTwelveLooks() {
        DUE.says("ORDERS: how many hold all LOOKS (the 12th, too)");
        HandOverHorse x = Walls.plain(8);
        for (int i = 0; i < 11; i++) {
            x.over(1, 0, 1);
        }
        DUE.is("orders() with 11", x.orders(), 20160);
        x.over(7, 6, 1);
        DUE.is("orders() with 12", x.orders(), 10080);
        x.forget();
        x.over(0, 1, 1);
        DUE.is("orders() with a 12th that turns one round", x.orders(), 0);
    }

    private static void ordersAreNone() {
        DUE.says("ORDERS: how many hold all LOOKS (none, if LOOKS go round)");
        for (int n = 2; n <= 8; n++) {
            HandOverHorse x = Walls.chain(n);
            x.over(0, n - 1, 1);
            DUE.is("orders() of a ring of " + n, x.orders(), 0);
            x.forget();
            DUE.is("orders() when it is opened", x.orders(), 1);
        }
    }

    private static void ordersFollowChanges() {
        DUE.says("ORDERS, asked once more when LOOKS, STROKES have changed");
        HandOverHorse x = Walls.plain(3);
        DUE.is("without LOOKS", x.orders(), 6);
        x.over(0, 1, 1);
        DUE.is("with 0 over 1", x.orders(), 3);
        x.forget();
        DUE.is("without LOOKS once more", x.orders(), 6);
        x.over(2, 1, 1);
        DUE.is("with 2 over 1", x.orders(), 3);
        DUE.is("sure(0, 1)", x.sure(0, 1), 0);
        x.image();
        x.stroke(0, 0, 0);
        DUE.is("with a fourth", x.orders(), 12);
        x.restore();
        DUE.is("without it", x.orders(), 3);
        DUE.is("told nothing", x.told(1), 0);
    }

    private static void sureOfTwo() {
        DUE.says("SURE. BEYOND: also one STROKE twice.");
        for (int n = 0; n <= 8; n++) {
            HandOverHorse x = Walls.plain(n);
            for (int i = -1; i <= n; i++) {
                DUE.is("sure(" + i + ", " + i + ") of " + n, x.sure(i, i), Due.BEYOND);
                DUE.is("sure(" + i + ", " + n + ") of " + n, x.sure(i, n), Due.BEYOND);
                DUE.is("sure(" + n + ", " + i + ") of " + n, x.sure(n, i), Due.BEYOND);
                DUE.is("sure(" + i + ", -1) of " + n, x.sure(i, -1), Due.BEYOND);
                DUE.is("sure(-1, " + i + ") of " + n, x.sure(-1, i), Due.BEYOND);
            }
        }
        HandOverHorse x = Walls.plain(8);
        x.over(0, 7, 1);
        DUE.is("sure(0, 7)", x.sure(0, 7), 1);
        DUE.is("sure(7, 0)", x.sure(7, 0), -1);
        DUE.is("sure(7, least)", x.sure(7, Integer.MIN_VALUE), Due.BEYOND);
        DUE.is("sure(greatest, 0)", x.sure(Integer.MAX_VALUE, 0), Due.BEYOND);
    }

    private static void sureOverOthers() {
        DUE.says("SURE of two: 1, if the first lies above the second in all of these; -1, if below in all");
        HandOverHorse up = Walls.chain(8);
        HandOverHorse down = Walls.plain(8);
        for (int i = 1; i < 8; i++) {
            down.over(i - 1, i, 50);
        }
        for (int i = 0; i < 8; i++) {
            for (int k = 0; k < 8; k++) {
                if (i != k) {
                    DUE.is("chain: sure(" + i + ", " + k + ")", up.sure(i, k), i > k ? 1 : -1);
                    DUE.is("chain down: sure(" + i + ", " + k + ")", down.sure(i, k), i < k ? 1 : -1);
                }
            }
        }
        HandOverHorse mixed = Walls.plain(8);
        int[] row = {3, 7, 0, 5, 1, 6, 2, 4};
        for (int i = 1; i < 8; i++) {
            mixed.over(row[i], row[i - 1], 1);
        }
        for (int i = 0; i < 8; i++) {
            for (int k = 0; k < i; k++) {
                DUE.is("mixed: sure(" + row[i] + ", " + row[k] + ")", mixed.sure(row[i], row[k]), 1);
                DUE.is("mixed: sure(" + row[k] + ", " + row[i] + ")", mixed.sure(row[k], row[i]), -1);
            }
        }
    }

    private static void sureWithoutAny() {
        DUE.says("SURE of two: 0 else (also without any)");
        for (int n = 2; n <= 6; n++) {
            HandOverHorse x = Walls.plain(8);
            x.over(7, 6, 1);
            DUE.is("sure(7, 6) ahead of it", x.sure(7, 6), 1);
            for (int i = 1; i < n; i++) {
                x.over(i, i - 1, 1);
            }
            x.over(0, n - 1, 1);
            DUE.is("sure(7, 6) with a ring of others", x.sure(7, 6), 0);
            DUE.is("sure(6, 7) with a ring of others", x.sure(6, 7), 0);
            DUE.is("sure(1, 0) in the ring", x.sure(1, 0), 0);
            DUE.is("sure(0, 1) in the ring", x.sure(0, 1), 0);
            x.forget();
            DUE.is("sure(7, 6) behind it", x.sure(7, 6), 1);
        }
    }

    private static void sureWithoutLooks() {
        DUE.says("SURE of two: 0 else");
        HandOverHorse x = Walls.plain(2);
        DUE.is("sure(0, 1) without LOOKS", x.sure(0, 1), 0);
        DUE.is("sure(1, 0) without LOOKS", x.sure(1, 0), 0);
        HandOverHorse y = Walls.plain(4);
        y.over(1, 0, 1);
        y.over(2, 0, 1);
        y.over(3, 1, 1);
        y.over(3, 2, 1);
        DUE.is("sure(1, 2): both over 0, under 3", y.sure(1, 2), 0);
        DUE.is("sure(2, 1)", y.sure(2, 1), 0);
        DUE.is("sure(3, 0)", y.sure(3, 0), 1);
    }

    private static void wrongWithoutLooks() {
        DUE.says("WRONG: the least sum of WEIGHTS of LOOKS that don't hold (none, if there are no LOOKS)");
        for (int n = 0; n <= 8; n++) {
            HandOverHorse x = Walls.plain(n);
            DUE.is("wrong(0) of " + n, x.wrong(0), 0);
            DUE.is("wrong(1) of " + n, x.wrong(1), 0);
            HandOverHorse chain = Walls.chain(n);
            DUE.is("wrong(0) of a chain of " + n, chain.wrong(0), 0);
            DUE.is("wrong(1) of a chain of " + n, chain.wrong(1), 0);
        }
    }

    private static void wrongByWhat() {
        DUE.says("WRONG: what 0 the sum, 1 WHICH. BEYOND.");
        for (int n = 0; n <= 8; n += 4) {
            HandOverHorse x = Walls.plain(n);
            for (int what : new int[] {-1, 2, Integer.MIN_VALUE, Integer.MAX_VALUE}) {
                DUE.is("wrong(" + what + ") of " + n, x.wrong(what), Due.BEYOND);
            }
            DUE.is("told(1)", x.told(1), 4);
        }
    }

    private static void wrongOfRings() {
        DUE.says("WRONG: the least sum of WEIGHTS of LOOKS that don't hold, of all ORDERS");
        for (int n = 2; n <= 8; n++) {
            for (int weakest = 0; weakest < n; weakest++) {
                HandOverHorse x = Walls.plain(n);
                for (int i = 0; i < n; i++) {
                    x.over((i + 1) % n, i, i == weakest ? 40 : 41);
                }
                DUE.is("wrong(0) of a ring of " + n, x.wrong(0), 40);
                DUE.is("wrong(1) of a ring of " + n, x.wrong(1), 1 << weakest);
                DUE.is("the first of the best ORDER", x.best(0), (weakest + 1) % n);
                DUE.is("the last of the best ORDER", x.best(n - 1), weakest);
            }
        }
    }

    private static void wrongOfTwelve() {
        DUE.says("WHICH: the LOOKS that don't hold in it, as bits (of 12 LOOKS)");
        HandOverHorse x = Walls.plain(8);
        for (int i = 0; i < 12; i++) {
            x.over(i < 6 ? 0 : 7, i < 6 ? 7 : 0, 99);
        }
        DUE.is("wrong(0): like sums", x.wrong(0), 6 * 99);
        DUE.is("wrong(1): 0 ahead of 7", x.wrong(1), 63);
        x.see(6, 98);
        DUE.is("wrong(0): the others then", x.wrong(0), 98 + 5 * 99);
        DUE.is("wrong(1): 7 ahead of 0", x.wrong(1), 4095 - 63);
        Due.read(x, 1, "999");
        DUE.is("wrong(0) with the greatest WEIGHTS", x.wrong(0), 6 * 999);
        DUE.is("wrong(1) with the greatest WEIGHTS", x.wrong(1), 63);
    }

    private static void wrongWithWeightsOfZero() {
        DUE.says("WHICH: the LOOKS that don't hold in it (also of WEIGHT 0)");
        HandOverHorse x = Walls.plain(3);
        Due.read(x, 1, "w>1");
        x.over(0, 1, 1);
        x.over(1, 2, 1);
        x.over(0, 2, 1);
        DUE.is("wrong(0)", x.wrong(0), 0);
        DUE.is("wrong(1): none holds in 0 1 2", x.wrong(1), 7);
        orderIs("WEIGHTS of 0", x, 0, 1, 2);
        x.see(1, 2);
        DUE.is("wrong(0)", x.wrong(0), 0);
        DUE.is("wrong(1): 0 2 1", x.wrong(1), 1 | 4);
        orderIs("one with a WEIGHT", x, 0, 2, 1);
    }

    private static void wrongOfSeveral() {
        DUE.says("WRONG: the least sum: many light ones, or one that is heavy");
        HandOverHorse x = Walls.plain(3);
        x.over(0, 1, 90);
        x.over(1, 2, 90);
        x.over(2, 0, 30);
        x.over(2, 0, 30);
        x.over(2, 0, 29);
        DUE.is("wrong(0): three light ones", x.wrong(0), 89);
        DUE.is("wrong(1)", x.wrong(1), 4 | 8 | 16);
        orderIs("three light ones", x, 2, 1, 0);
        x.see(4, 31);
        DUE.is("wrong(0): one heavy one", x.wrong(0), 90);
        DUE.is("wrong(1): of 0 over 1, 1 over 2 the one by the first ORDER", x.wrong(1), 1);
        orderIs("one heavy one", x, 0, 2, 1);
    }

    private static void wrongOfTwoRings() {
        DUE.says("WRONG: the least sum of WEIGHTS of LOOKS that don't hold, of all ORDERS (in several places)");
        HandOverHorse x = Walls.plain(8);
        x.over(1, 0, 10);
        x.over(0, 1, 20);
        x.over(7, 6, 30);
        x.over(6, 7, 40);
        x.over(4, 3, 5);
        x.over(3, 4, 6);
        DUE.is("wrong(0): 10, 30 and 5", x.wrong(0), 45);
        DUE.is("wrong(1)", x.wrong(1), 1 | 4 | 16);
        orderIs("three pairs", x, 1, 0, 2, 4, 3, 5, 7, 6);
        HandOverHorse held = Walls.plain(3);
        held.over(2, 0, 10);
        held.over(2, 1, 10);
        held.over(1, 2, 50);
        DUE.is("wrong(0): of two LOOKS of one STROKE one doesn't hold", held.wrong(0), 10);
        DUE.is("wrong(1): of two LOOKS of one STROKE one doesn't hold", held.wrong(1), 2);
        orderIs("of two LOOKS of one STROKE one doesn't hold", held, 0, 2, 1);
        HandOverHorse y = Walls.plain(4);
        y.over(0, 1, 10);
        y.over(0, 2, 10);
        y.over(0, 3, 10);
        y.over(1, 0, 99);
        y.over(2, 0, 9);
        y.over(3, 0, 9);
        DUE.is("wrong(0): one STROKE over several that aren't ahead", y.wrong(0), 28);
        DUE.is("wrong(1)", y.wrong(1), 1 | 16 | 32);
        orderIs("one over several", y, 2, 3, 0, 1);
        for (int i = 0; i < 3; i++) {
            y.see(i, 1);
        }
        DUE.is("wrong(0): all three", y.wrong(0), 3);
        DUE.is("wrong(1): all three", y.wrong(1), 7);
        orderIs("all three", y, 0, 1, 2, 3);
    }

    private static void bestByPlace() {
        DUE.says("THE BEST ORDER: the i-th STROKE of it. BEYOND.");
        for (int n = 0; n <= 8; n++) {
            HandOverHorse x = Walls.plain(n);
            for (int i : new int[] {-1, n, n + 1, Integer.MIN_VALUE, Integer.MAX_VALUE}) {
                DUE.is("best(" + i + ") of " + n, x.best(i), Due.BEYOND);
            }
            for (int i = 0; i < n; i++) {
                DUE.is("best(" + i + ") of " + n, x.best(i), i);
            }
        }
    }

    private static void bestIsTheFirst() {
        DUE.says("THE BEST ORDER: the first (as a row of numbers) of those with that");
        HandOverHorse x = Walls.plain(8);
        x.over(0, 7, 1);
        orderIs("0 over 7", x, 1, 2, 3, 4, 5, 6, 7, 0);
        x.over(1, 2, 1);
        orderIs("1 over 2, too", x, 2, 1, 3, 4, 5, 6, 7, 0);
        x.over(3, 0, 1);
        orderIs("3 over 0, too", x, 2, 1, 4, 5, 6, 7, 0, 3);
        x.over(7, 3, 1);
        orderIs("a ring of like ones: 7 over 3 doesn't hold", x, 0, 2, 1, 3, 4, 5, 6, 7);
        DUE.is("wrong(1)", x.wrong(1), 1);
    }

    private static void bestFollowsChanges() {
        DUE.says("THE BEST ORDER, asked once more when LOOKS have changed");
        HandOverHorse x = Walls.plain(3);
        x.over(0, 1, 9);
        orderIs("0 over 1", x, 1, 0, 2);
        x.over(1, 0, 9);
        orderIs("1 over 0 as well", x, 0, 1, 2);
        x.see(1, 8);
        orderIs("1 over 0 less", x, 1, 0, 2);
        DUE.is("wrong(0)", x.wrong(0), 8);
        x.forget();
        x.forget();
        orderIs("no LOOKS", x, 0, 1, 2);
        x.over(0, 2, 9);
        orderIs("0 over 2", x, 1, 2, 0);
        DUE.is("wrong(0)", x.wrong(0), 0);
        HandOverHorse last = Walls.plain(3);
        last.over(0, 1, 9);
        last.over(0, 2, 9);
        DUE.is("TIMES, ahead of it", last.times(0), 2);
        DUE.is("JOININGS, ahead of it", last.joinings(1), 1);
        orderIs("0 over all others", last, 1, 2, 0);
        DUE.is("wrong(0)", last.wrong(0), 0);
        HandOverHorse one = Walls.plain(1);
        DUE.is("TIMES of one", one.times(0), 1);
        DUE.is("wrong(0) of one", one.wrong(0), 0);
        x.become(0, 60);
        Due.read(x, 1, "k");
        x.over(2, 0, 9);
        DUE.is("wrong(0): KINDS weigh", x.wrong(0), 0);
        x.become(2, 50);
        DUE.is("wrong(0): both weigh", x.wrong(0), 5);
        DUE.is("wrong(1)", x.wrong(1), 2);
    }
}
