/** Promises 21 to 25: join, joinings, times, lamp, hand. */
public final class BeastsTest {
    private static final Due DUE = new Due("BeastsTest");

    public static void main(String[] args) {
        join();
        gaps();
        joinings();
        times();
        firstTime();
        lamp();
        hand();
        DUE.end();
    }

    private static int joinOf(int km, int cell, int hand, int otherKm, int otherCell, int otherHand) {
        HandOverHorse x = new HandOverHorse();
        x.stroke(km, cell, hand);
        x.stroke(otherKm, otherCell, otherHand);
        int answer = x.join(0, 1);
        DUE.is("join(1, 0) as join(0, 1)", x.join(1, 0), answer);
        return answer;
    }

    private static void join() {
        HandOverHorse x = new HandOverHorse();
        x.stroke(0, 0, 0);
        x.stroke(0, 0, 0);
        DUE.is("join(0, 0)", x.join(0, 0), Due.BEYOND);
        DUE.is("join(0, 2)", x.join(0, 2), Due.BEYOND);
        DUE.is("join(2, 0)", x.join(2, 0), Due.BEYOND);
        DUE.is("join(-1, 0)", x.join(-1, 0), Due.BEYOND);
        DUE.is("HANDS 9 apart", joinOf(0, 0, 50, 0, 0, 59), 1);
        DUE.is("HANDS 10 apart", joinOf(0, 0, 50, 0, 0, 60), 0);
        DUE.is("unlike STUFF", joinOf(0, 0, 50, 10, 0, 50), 0);
        DUE.is("RED and CHILD", joinOf(10, 0, 50, 40, 0, 50), 1);
        DUE.is("BLACK and SOOT", joinOf(20, 0, 50, 50, 0, 50), 1);
        DUE.is("SCRATCH and FORGED", joinOf(30, 0, 50, 60, 0, 50), 1);
        DUE.is("rows and columns together: 2", joinOf(0, 14, 50, 0, 21, 50), 1);
        DUE.is("rows and columns together: 3", joinOf(0, 14, 50, 0, 22, 50), 0);
        DUE.is("ends of rows are far: 5 and 6", joinOf(0, 5, 50, 0, 6, 50), 0);
    }

    /** The cells 0, 1, .. 5, 11, 17, .. 35 are so far from cell 0. */
    private static int cellSoFar(int far) {
        return far <= 5 ? far : 5 + 6 * (far - 5);
    }

    private static void gaps() {
        // GAP of both together by pairs of km.
        int[][] pairs = {
            {0, 9, 2}, {12, 12, 2}, {13, 12, 3}, {19, 19, 8}, {16, 13, 5}, {40, 49, 0}, {49, 19, 4}, {29, 20, 2},
            {29, 59, 3}, {59, 50, 4}, {39, 30, 4}, {60, 39, 4}, {63, 30, 7}, {62, 61, 7}};
        for (int[] pair : pairs) {
            String of = " of " + pair[0] + " and " + pair[1];
            DUE.is("GAP" + of, joinOf(pair[0], 0, 5, pair[1], cellSoFar(pair[2]), 5), 1);
            DUE.is("GAP and 1" + of, joinOf(pair[0], 0, 5, pair[1], cellSoFar(pair[2] + 1), 5), 0);
        }
        DUE.is("FORGED reach all", joinOf(69, 0, 5, 60, 35, 5), 1);
    }

    private static void joinings() {
        HandOverHorse x = new HandOverHorse();
        DUE.is("joinings(0) without STROKES", x.joinings(0), 1);
        DUE.is("joinings(1) without STROKES", x.joinings(1), 0);
        DUE.is("joinings(2)", x.joinings(2), Due.BEYOND);
        DUE.is("joinings(-1)", x.joinings(-1), Due.BEYOND);
        int[] bells = {1, 1, 2, 5, 15, 52, 203, 877, 4140};
        for (int n = 1; n <= 8; n++) {
            x.stroke(0, 0, 50);
            DUE.is("joinings(0) of " + n + " that all join", x.joinings(0), bells[n]);
            DUE.is("joinings(1) of " + n + " that all join", x.joinings(1), 1);
        }
        HandOverHorse row = new HandOverHorse();
        row.stroke(0, 0, 50);
        row.stroke(0, 2, 50);
        row.stroke(0, 4, 50);
        row.stroke(20, 4, 50);
        // 0-1 and 1-2 join, 0-2 don't: alone, {0 1}, {1 2}; the BLACK one alone.
        DUE.is("joinings(0) of a row", row.joinings(0), 3);
        DUE.is("joinings(1) of a row", row.joinings(1), 3);
        row.stroke(0, 0, 59);
        // 4 joins 0 and 1: with {0}, {1}, {0 1} each, {1 2} not with 4.
        DUE.is("joinings(0): all two of a BEAST join", row.joinings(0), 7);
        DUE.is("joinings(1)", row.joinings(1), 3);
    }

    private static HandOverHorse wall(int... kms) {
        HandOverHorse x = new HandOverHorse();
        for (int km : kms) {
            x.stroke(km, 0, 0);
        }
        return x;
    }

    private static void timesAre(String what, HandOverHorse x, int fewest, int first) {
        DUE.is(what + ": times(0)", x.times(0), fewest);
        DUE.is(what + ": times(1)", x.times(1), first);
    }

    private static void times() {
        HandOverHorse x = new HandOverHorse();
        timesAre("without STROKES", x, 0, 0);
        DUE.is("times(2)", x.times(2), Due.BEYOND);
        DUE.is("times(-1)", x.times(-1), Due.BEYOND);
        timesAre("one", wall(0), 1, 1);
        timesAre("like ones", wall(10, 40, 19), 1, 7);
        timesAre("each STUFF", wall(10, 20, 30, 0, 40, 50, 60, 5), 4, 1 | 16);
        x = wall(0, 0, 0);
        x.over(0, 1, 1);
        timesAre("one over another", x, 2, 2);
        x.over(1, 2, 1);
        timesAre("a chain", x, 3, 4);
        x.over(2, 0, 1);
        DUE.is("a ring: times(0)", x.times(0), Due.NONE);
        DUE.is("a ring: times(1)", x.times(1), Due.NONE);
        DUE.is("BEYOND ahead of NONE", x.times(2), Due.BEYOND);
    }

    private static void firstTime() {
        HandOverHorse x = wall(0, 0, 0);
        x.over(2, 1, 1);
        // {1} {0 2} is as few as {0 1} {2}: bits 2 is less than 3.
        timesAre("the least first set", x, 2, 2);
        x = wall(10, 20, 10, 20);
        x.over(1, 0, 1);
        x.over(2, 3, 1);
        // RED 0, BLACK 1 over 0, RED 2 over BLACK 3: {0} {1 3} {2}, or {3} {0 2} {1}.
        timesAre("unlike ones cross", x, 3, 1);
        x = wall(20, 10, 20, 10);
        x.over(0, 1, 1);
        x.over(3, 0, 1);
        // RED 1, BLACK 0 over it, RED 3 over that; BLACK 2 with 0: {1} {0 2} {3}.
        timesAre("not the least number", x, 3, 2);
    }

    private static void lamp() {
        HandOverHorse x = new HandOverHorse();
        DUE.is("lamp without STROKES", x.lamp(0, 10), 0);
        x.stroke(0, 0, 0);
        x.stroke(10, 35, 0);
        x.stroke(20, 14, 0);
        x.stroke(30, 14, 0);
        x.stroke(40, 21, 0);
        DUE.is("lamp(14, 0)", x.lamp(14, 0), 12);
        DUE.is("lamp(14, 1)", x.lamp(14, 1), 12);
        DUE.is("lamp(14, 2)", x.lamp(14, 2), 28);
        DUE.is("lamp(14, 3)", x.lamp(14, 3), 28);
        DUE.is("lamp(14, 4)", x.lamp(14, 4), 29);
        DUE.is("lamp(14, 6)", x.lamp(14, 6), 31);
        DUE.is("lamp(0, 9)", x.lamp(0, 9), 29);
        DUE.is("lamp(0, 10)", x.lamp(0, 10), 31);
        DUE.is("lamp(36, 0)", x.lamp(36, 0), Due.BEYOND);
        DUE.is("lamp(-1, 0)", x.lamp(-1, 0), Due.BEYOND);
        DUE.is("lamp(0, 11)", x.lamp(0, 11), Due.BEYOND);
        DUE.is("lamp(0, -1)", x.lamp(0, -1), Due.BEYOND);
    }

    private static void hand() {
        HandOverHorse x = new HandOverHorse();
        DUE.is("hand without STROKES", x.hand(0), 0);
        DUE.is("hand(100)", x.hand(100), Due.BEYOND);
        DUE.is("hand(-1)", x.hand(-1), Due.BEYOND);
        x.stroke(0, 0, 41);
        x.stroke(10, 35, 59);
        DUE.is("hand(50): both near, but not to one another", x.hand(50), 1);
        DUE.is("hand(51)", x.hand(51), 2);
        DUE.is("hand(49)", x.hand(49), 1);
        DUE.is("hand(31)", x.hand(31), 0);
        DUE.is("hand(32)", x.hand(32), 1);
        DUE.is("hand(68)", x.hand(68), 2);
        DUE.is("hand(69)", x.hand(69), 0);
        x.stroke(20, 5, 50);
        DUE.is("hand(50): like numbers, the least set", x.hand(50), 1 | 4);
        x.stroke(30, 9, 55);
        DUE.is("hand(50): the greatest number", x.hand(50), 2 | 4 | 8);
        x.stroke(0, 0, 0);
        x.stroke(0, 0, 99);
        DUE.is("hand(0)", x.hand(0), 16);
        DUE.is("hand(99)", x.hand(99), 32);
    }
}
