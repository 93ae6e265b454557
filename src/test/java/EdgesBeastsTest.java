/** Sentences on BEASTS, TIMES, LAMPS, HANDS (promises 21 to 25) that name a boundary case, each by a test of its own. */
public final class EdgesBeastsTest {
    private static final Due DUE = new Due("EdgesBeastsTest");

    public static void main(String[] args) {
        joinOfTwo();
        joinOfLikeStuff();
        joinByHands();
        joinByFar();
        gapOfKinds();
        redsThirdIsCut();
        joinFollowsChanges();
        joiningsByWhat();
        joiningsFromNoneToEight();
        allTwoJoin();
        joiningsFollowChanges();
        timesByWhat();
        timesWithoutStrokes();
        timesFromOneToEight();
        timesNone();
        setsOfLikeStuff();
        inALaterSet();
        firstIsLeast();
        timesFollowChanges();
        lampByCellAndBright();
        lampNoMoreThanThat();
        lampOfNoneAndEight();
        handByHigh();
        handNineOrLess();
        handOfOthers();
        handOfSeveralTheLeast();
        handOfNoneAndEight();
        DUE.end();
    }

    private static void joinOfTwo() {
        DUE.says("Whether TWO JOIN: 1, 0. BEYOND: also one STROKE twice.");
        for (int n = 0; n <= 8; n++) {
            HandOverHorse x = Walls.plain(n);
            for (int i = -1; i <= n; i++) {
                DUE.is("join(" + i + ", " + i + ") of " + n, x.join(i, i), Due.BEYOND);
                DUE.is("join(" + i + ", " + n + ") of " + n, x.join(i, n), Due.BEYOND);
                DUE.is("join(" + n + ", " + i + ") of " + n, x.join(n, i), Due.BEYOND);
                DUE.is("join(" + i + ", -1) of " + n, x.join(i, -1), Due.BEYOND);
                DUE.is("join(-1, " + i + ") of " + n, x.join(-1, i), Due.BEYOND);
            }
        }
        HandOverHorse x = Walls.plain(8);
        DUE.is("join(0, 7)", x.join(0, 7), 1);
        DUE.is("join(7, 0)", x.join(7, 0), 1);
        DUE.is("join(least, 0)", x.join(Integer.MIN_VALUE, 0), Due.BEYOND);
        DUE.is("join(0, greatest)", x.join(0, Integer.MAX_VALUE), Due.BEYOND);
    }

    private static int joinOf(int km, int cell, int hand, int otherKm, int otherCell, int otherHand) {
        HandOverHorse x = new HandOverHorse();
        x.stroke(km, cell, hand);
        x.stroke(otherKm, otherCell, otherHand);
        int answer = x.join(0, 1);
        DUE.is("join(1, 0) as join(0, 1)", x.join(1, 0), answer);
        return answer;
    }

    private static void joinOfLikeStuff() {
        DUE.says("TWO JOIN: of like STUFF");
        int[] stuffs = {0, 1, 2, 3, 1, 2, 3};
        for (int a = 0; a < 7; a++) {
            for (int b = 0; b < 7; b++) {
                DUE.is("KINDS " + a + " and " + b, joinOf(a * 10, 14, 50, b * 10, 14, 50), stuffs[a] == stuffs[b] ? 1 : 0);
            }
        }
    }

    private static void joinByHands() {
        DUE.says("difference of HANDS 9 or less");
        for (int hand : new int[] {0, 45, 90}) {
            DUE.is("HANDS " + hand + " and 9 more", joinOf(0, 14, hand, 0, 14, hand + 9), 1);
            DUE.is("HANDS " + hand + " and 8 more", joinOf(0, 14, hand, 0, 14, hand + 8), 1);
        }
        DUE.is("HANDS 0 and 10", joinOf(0, 14, 0, 0, 14, 10), 0);
        DUE.is("HANDS 45 and 55", joinOf(0, 14, 45, 0, 14, 55), 0);
        DUE.is("HANDS 0 and 99", joinOf(0, 14, 0, 0, 14, 99), 0);
    }

    private static void joinByFar() {
        DUE.says("FAR of two CELLS: differences of rows and of columns, without sign, together; no more than GAP of both");
        for (int a = 0; a < 36; a++) {
            for (int b = 0; b < 36; b++) {
                int rows = Math.abs(a / 6 - b / 6);
                int columns = Math.abs(a % 6 - b % 6);
                DUE.is("STROKES in " + a + ", " + b, joinOf(0, a, 5, 0, b, 5), rows + columns <= 2 ? 1 : 0);
            }
        }
    }

    /** The cells 0, 1, .. 5, 11, 17, .. 35 are so far from cell 0. */
    private static int cellSoFar(int far) {
        return far <= 5 ? far : 5 + 6 * (far - 5);
    }

    private static void gapIs(int km, int otherKm, int gap) {
        String of = " of km " + km + " and " + otherKm;
        DUE.is("FAR as GAP" + of, joinOf(km, 0, 5, otherKm, cellSoFar(gap), 5), 1);
        if (gap < 10) {
            DUE.is("FAR as GAP and 1" + of, joinOf(km, 0, 5, otherKm, cellSoFar(gap + 1), 5), 0);
        }
    }

    private static void gapOfKinds() {
        DUE.says("GAP: STROKE: 1. RED: as STROKE, and m by 3. BLACK: as STROKE. SCRATCH: 2. CHILD: 0. SOOT: as BLACK, and 1. FORGED: as SCRATCH, and m.");
        gapIs(0, 9, 2);
        gapIs(20, 29, 2);
        gapIs(30, 39, 4);
        gapIs(40, 49, 0);
        gapIs(50, 59, 4);
        gapIs(60, 60, 4);
        gapIs(10, 49, 1);
        gapIs(20, 59, 3);
        gapIs(30, 61, 5);
        gapIs(60, 65, 9);
        gapIs(61, 65, 10);
        gapIs(69, 69, 10);
    }

    private static void redsThirdIsCut() {
        DUE.says("RED: as STROKE, and m by 3; quotients are cut");
        int[] gaps = {1, 1, 1, 2, 2, 2, 3, 3, 3, 4};
        for (int m = 0; m < 10; m++) {
            gapIs(10 + m, 40, gaps[m]);
            gapIs(10 + m, 10 + m, 2 * gaps[m]);
        }
    }

    private static void joinFollowsChanges() {
        DUE.says("TWO JOIN, asked once more when STROKES have changed");
        HandOverHorse x = Walls.plain(2);
        DUE.is("join", x.join(0, 1), 1);
        x.change(1, 2, 3);
        DUE.is("too FAR", x.join(0, 1), 0);
        x.become(0, 30);
        x.become(1, 30);
        DUE.is("a greater GAP", x.join(0, 1), 1);
        x.change(0, 3, 10);
        DUE.is("HANDS", x.join(0, 1), 0);
        x.change(1, 3, 1);
        DUE.is("HANDS nearer", x.join(0, 1), 1);
        x.become(1, 0);
        DUE.is("unlike STUFF", x.join(0, 1), 0);
    }

    private static void joiningsByWhat() {
        DUE.says("JOININGS (what 0), FEWEST (1). BEYOND.");
        for (int n = 0; n <= 8; n += 4) {
            HandOverHorse x = Walls.plain(n);
            for (int what : new int[] {-1, 2, Integer.MIN_VALUE, Integer.MAX_VALUE}) {
                DUE.is("joinings(" + what + ") of " + n, x.joinings(what), Due.BEYOND);
            }
        }
    }

    private static void joiningsFromNoneToEight() {
        DUE.says("JOININGS (1 without STROKES), FEWEST (0 without STROKES)");
        int[] bells = {1, 1, 2, 5, 15, 52, 203, 877, 4140};
        for (int n = 0; n <= 8; n++) {
            HandOverHorse x = Walls.plain(n);
            DUE.is("joinings(0) of " + n + " that all JOIN", x.joinings(0), bells[n]);
            DUE.is("joinings(1) of " + n + " that all JOIN", x.joinings(1), n == 0 ? 0 : 1);
            HandOverHorse apart = new HandOverHorse();
            for (int i = 0; i < n; i++) {
                apart.stroke(0, 0, 10 * i);
            }
            DUE.is("joinings(0) of " + n + " of which none JOIN", apart.joinings(0), 1);
            DUE.is("joinings(1) of " + n + " of which none JOIN", apart.joinings(1), n);
        }
    }

    private static void allTwoJoin() {
        DUE.says("so that in each all two JOIN");
        HandOverHorse x = new HandOverHorse();
        for (int i = 0; i < 8; i++) {
            x.stroke(0, 0, 9 * i);
        }
        // Only neighbours JOIN: as many ways as there are to take pairs of neighbours out of a row of 8.
        DUE.is("joinings(0) of a row", x.joinings(0), 34);
        DUE.is("joinings(1) of a row", x.joinings(1), 4);
        HandOverHorse y = new HandOverHorse();
        for (int hand : new int[] {0, 5, 9, 14}) {
            y.stroke(0, 0, hand);
        }
        // 0 5 9 all JOIN, 5 9 14 all JOIN, 0 and 14 don't: 15 ways less 5 with 0 and 14 in one.
        DUE.is("joinings(0) of two threes", y.joinings(0), 10);
        DUE.is("joinings(1) of two threes", y.joinings(1), 2);
        HandOverHorse star = new HandOverHorse();
        for (int hand : new int[] {9, 0, 18}) {
            star.stroke(0, 0, hand);
        }
        DUE.is("joinings(0) of one between two that don't JOIN", star.joinings(0), 3);
        DUE.is("joinings(1) of one between two that don't JOIN", star.joinings(1), 2);
        star.stroke(0, 0, 9);
        // Like the one between: each alone or with any one of its side: {0 3} {0 1 3} {0 2 3} and so on.
        DUE.is("joinings(0) of two between two", star.joinings(0), 10);
        DUE.is("joinings(1) of two between two", star.joinings(1), 2);
        DUE.says("each STROKE in one, BEASTS in no order");
        HandOverHorse pairs = new HandOverHorse();
        for (int i = 0; i < 8; i++) {
            pairs.stroke(0, 0, 20 * (i / 2));
        }
        DUE.is("joinings(0) of four pairs", pairs.joinings(0), 16);
        DUE.is("joinings(1) of four pairs", pairs.joinings(1), 4);
    }

    private static void joiningsFollowChanges() {
        DUE.says("JOININGS, asked once more when STROKES have changed");
        HandOverHorse x = Walls.plain(8);
        DUE.is("all JOIN", x.joinings(0), 4140);
        for (int i = 0; i < 8; i++) {
            x.change(i, 3, 10 * i);
        }
        DUE.is("none JOIN", x.joinings(0), 1);
        DUE.is("none JOIN", x.joinings(1), 8);
        x.change(7, 3, 0);
        DUE.is("the first and the last JOIN", x.joinings(0), 2);
        DUE.is("the first and the last JOIN", x.joinings(1), 7);
    }

    private static void timesAre(String what, HandOverHorse x, int fewest, int first) {
        DUE.is(what + ": times(0)", x.times(0), fewest);
        DUE.is(what + ": times(1)", x.times(1), first);
    }

    private static void timesByWhat() {
        DUE.says("TIMES: what 0 the fewest, 1 FIRST. BEYOND.");
        HandOverHorse[] walls = {Walls.plain(0), Walls.plain(8), Walls.chain(2)};
        walls[2].over(0, 1, 1);
        for (HandOverHorse x : walls) {
            for (int what : new int[] {-1, 2, Integer.MIN_VALUE, Integer.MAX_VALUE}) {
                DUE.is("times(" + what + "), also if there is none", x.times(what), Due.BEYOND);
            }
            DUE.is("told(2)", x.told(2), 0);
        }
    }

    private static void timesWithoutStrokes() {
        DUE.says("TIMES: (0 both without STROKES)");
        HandOverHorse x = Walls.plain(0);
        timesAre("none", x, 0, 0);
        x.image();
        x.stroke(10, 0, 0);
        timesAre("one", x, 1, 1);
        x.restore();
        timesAre("none once more", x, 0, 0);
    }

    private static void timesFromOneToEight() {
        DUE.says("rows of sets of STROKES (each STROKE in one, none empty)");
        for (int n = 1; n <= 8; n++) {
            timesAre("without LOOKS, " + n, Walls.plain(n), 1, (1 << n) - 1);
            timesAre("a chain of " + n, Walls.chain(n), n, 1);
            HandOverHorse down = Walls.plain(n);
            for (int i = 1; i < n; i++) {
                down.over(i - 1, i, 1);
            }
            timesAre("a chain down of " + n, down, n, 1 << n - 1);
        }
    }

    private static void timesNone() {
        DUE.says("NONE: no row holds all LOOKS");
        for (int n = 2; n <= 8; n++) {
            HandOverHorse x = Walls.chain(n);
            x.over(0, n - 1, 1);
            DUE.is("times(0) of a ring of " + n, x.times(0), Due.NONE);
            DUE.is("times(1) of a ring of " + n, x.times(1), Due.NONE);
            DUE.is("times(2) of a ring of " + n, x.times(2), Due.BEYOND);
            x.forget();
            timesAre("opened", x, n, 1);
        }
        HandOverHorse x = Walls.plain(8);
        x.over(6, 7, 1);
        x.over(7, 6, 1);
        DUE.is("times(0) with a ring of the last two", x.times(0), Due.NONE);
        DUE.is("told(2)", x.told(2), 1);
    }

    private static void setsOfLikeStuff() {
        DUE.says("those of one set of like STUFF");
        timesAre("one of each STUFF", Walls.of(30, 20, 10, 0), 4, 1);
        timesAre("KINDS of one STUFF", Walls.of(10, 40, 20, 50, 30, 60, 0, 5), 4, 3);
        timesAre("RED and CHILD", Walls.of(19, 40), 1, 3);
        timesAre("BLACK and SOOT", Walls.of(29, 50), 1, 3);
        timesAre("SCRATCH and FORGED", Walls.of(39, 60), 1, 3);
        timesAre("RED and STROKE", Walls.of(10, 0), 2, 1);
        HandOverHorse x = Walls.of(0, 10, 0, 0, 10);
        x.over(4, 2, 1);
        x.over(3, 1, 1);
        x.over(3, 0, 1);
        // {0 1} first would leave two sets behind it, but 0 and 1 are of unlike STUFF.
        timesAre("no first set of unlike STUFF", x, 3, 5);
    }

    private static void inALaterSet() {
        DUE.says("for each LOOK the one OVER is in a later set than the other one");
        HandOverHorse x = Walls.of(0, 0);
        x.over(0, 1, 1);
        timesAre("not in the same", x, 2, 2);
        HandOverHorse y = Walls.of(0, 10);
        y.over(0, 1, 1);
        timesAre("unlike ones", y, 2, 2);
        HandOverHorse z = Walls.of(0, 10, 0);
        z.over(1, 0, 1);
        z.over(2, 1, 1);
        timesAre("like ones with an unlike one between", z, 3, 1);
        HandOverHorse twelve = Walls.plain(8);
        for (int i = 0; i < 11; i++) {
            twelve.over(1, 0, 1);
        }
        timesAre("11 LOOKS", twelve, 2, 1);
        twelve.over(0, 7, 1);
        timesAre("the 12th LOOK, too", twelve, 3, 128);
    }

    private static void firstIsLeast() {
        DUE.says("FIRST: of rows with so few that whose first set is least (as bits)");
        HandOverHorse x = Walls.plain(3);
        x.over(2, 0, 1);
        // {0} {1 2} is as few as {0 1} {2}.
        timesAre("not as many as may come", x, 2, 1);
        HandOverHorse y = Walls.plain(3);
        y.over(0, 1, 1);
        timesAre("the least number that may come", y, 2, 2);
        HandOverHorse z = Walls.of(10, 20, 10, 20);
        z.over(1, 0, 1);
        z.over(2, 3, 1);
        z.over(0, 3, 1);
        timesAre("only the last may come", z, 3, 8);
        HandOverHorse all = Walls.plain(8);
        for (int i = 0; i < 7; i++) {
            all.over(i, 7, 1);
        }
        timesAre("the eighth below all", all, 2, 128);
    }

    private static void timesFollowChanges() {
        DUE.says("TIMES, asked once more when STROKES and LOOKS have changed");
        HandOverHorse x = Walls.of(10, 10, 10);
        timesAre("like ones", x, 1, 7);
        x.become(0, 20);
        timesAre("the first BLACK", x, 2, 1);
        x.become(1, 30);
        x.become(2, 0);
        timesAre("all unlike", x, 3, 1);
        x.over(0, 2, 1);
        timesAre("0 over 2", x, 3, 2);
        x.become(0, 0);
        x.become(1, 0);
        timesAre("all STROKE", x, 2, 4);
        x.forget();
        timesAre("no LOOKS", x, 1, 7);
        for (int kind = 1; kind < 7; kind++) {
            x.become(1, kind * 10);
            timesAre("the second of KIND " + kind, x, 2, 2);
            x.become(1, 0);
            timesAre("the second of KIND 0", x, 1, 7);
        }
    }

    private static void lampByCellAndBright() {
        DUE.says("LAMP in a CELL, so BRIGHT (0 to 10). BEYOND.");
        for (int n = 0; n <= 8; n += 8) {
            HandOverHorse x = Walls.plain(n);
            int all = (1 << n) - 1;
            for (int v : new int[] {-1, 36, Integer.MIN_VALUE, Integer.MAX_VALUE}) {
                DUE.is("lamp(" + v + ", 0)", x.lamp(v, 0), Due.BEYOND);
            }
            for (int v : new int[] {-1, 11, Integer.MIN_VALUE, Integer.MAX_VALUE}) {
                DUE.is("lamp(0, " + v + ")", x.lamp(0, v), Due.BEYOND);
            }
            DUE.is("lamp(0, 0)", x.lamp(0, 0), all);
            DUE.is("lamp(35, 0)", x.lamp(35, 0), 0);
            DUE.is("lamp(35, 10)", x.lamp(35, 10), all);
        }
    }

    private static void lampNoMoreThanThat() {
        DUE.says("STROKES (bits) FAR from it no more than that");
        for (int cell = 0; cell < 36; cell++) {
            HandOverHorse x = new HandOverHorse();
            x.stroke(0, cell, 0);
            for (int lamp : new int[] {0, 5, 14, 21, 30, 35}) {
                int far = Math.abs(cell / 6 - lamp / 6) + Math.abs(cell % 6 - lamp % 6);
                DUE.is("a STROKE in " + cell + ", lamp(" + lamp + ", " + far + ")", x.lamp(lamp, far), 1);
                if (far > 0) {
                    DUE.is("a STROKE in " + cell + ", lamp(" + lamp + ", " + (far - 1) + ")", x.lamp(lamp, far - 1), 0);
                }
            }
        }
        HandOverHorse corner = new HandOverHorse();
        corner.stroke(0, 35, 0);
        DUE.is("from corner to corner: 9", corner.lamp(0, 9), 0);
        DUE.is("from corner to corner: 10", corner.lamp(0, 10), 1);
    }

    private static void lampOfNoneAndEight() {
        DUE.says("STROKES (bits), without STROKES and with 8");
        DUE.is("none", Walls.plain(0).lamp(0, 10), 0);
        HandOverHorse x = new HandOverHorse();
        for (int i = 0; i < 8; i++) {
            x.stroke(i < 7 ? 10 * i : 0, i < 6 ? i : 5 + 6 * (i - 5), 0);
        }
        for (int bright = 0; bright <= 10; bright++) {
            DUE.is("lamp(0, " + bright + ")", x.lamp(0, bright), Math.min(255, (2 << bright) - 1));
        }
    }

    private static void handByHigh() {
        DUE.says("HAND of one so HIGH (0 to 99). BEYOND.");
        for (int n = 0; n <= 8; n += 8) {
            HandOverHorse x = Walls.plain(n);
            for (int v : new int[] {-1, 100, Integer.MIN_VALUE, Integer.MAX_VALUE}) {
                DUE.is("hand(" + v + ")", x.hand(v), Due.BEYOND);
            }
            DUE.is("hand(0)", x.hand(0), (1 << n) - 1);
            DUE.is("hand(99)", x.hand(99), 0);
        }
    }

    private static HandOverHorse hands(int... highs) {
        HandOverHorse x = new HandOverHorse();
        for (int high : highs) {
            x.stroke(0, 0, high);
        }
        return x;
    }

    private static void handNineOrLess() {
        DUE.says("STROKES whose HAND differs by 9 or less from that");
        for (int hand : new int[] {0, 1, 9, 10, 50, 89, 90, 98, 99}) {
            HandOverHorse x = hands(hand);
            for (int high = Math.max(0, hand - 11); high <= Math.min(99, hand + 11); high++) {
                DUE.is("a HAND of " + hand + ", hand(" + high + ")", x.hand(high), Math.abs(hand - high) <= 9 ? 1 : 0);
            }
        }
    }

    private static void handOfOthers() {
        DUE.says("and from those of all others of them (those that do not JOIN, too)");
        DUE.is("HANDS 9 apart", hands(45, 54).hand(50), 3);
        DUE.is("HANDS 10 apart", hands(45, 55).hand(50), 1);
        DUE.is("HANDS 18 apart", hands(41, 59).hand(50), 1);
        DUE.is("three, the ends 9 apart", hands(45, 50, 54).hand(50), 7);
        DUE.is("three, the ends 10 apart", hands(45, 50, 55).hand(50), 3);
        HandOverHorse x = new HandOverHorse();
        x.stroke(0, 0, 50);
        x.stroke(10, 35, 50);
        x.stroke(69, 5, 59);
        DUE.is("those that do not JOIN, too", x.hand(50), 7);
        DUE.is("all above", hands(51, 59, 60).hand(50), 3);
        DUE.is("all below", hands(49, 41, 40).hand(50), 3);
    }

    private static void handOfSeveralTheLeast() {
        DUE.says("the greatest number of STROKES; of several sets the least");
        DUE.is("the first of two", hands(59, 41).hand(50), 1);
        DUE.is("the first of two", hands(41, 59).hand(50), 1);
        DUE.is("two and two: bits 3, 12", hands(59, 58, 41, 42).hand(50), 3);
        DUE.is("two and two: bits 5, 10", hands(59, 41, 58, 42).hand(50), 5);
        DUE.is("two and two: bits 6, 9", hands(41, 59, 58, 42).hand(50), 6);
        DUE.is("a greater number ahead of a less set", hands(41, 59, 58).hand(50), 6);
        DUE.is("four sets of one", hands(59, 41, 0, 99).hand(50), 1);
        DUE.is("sets that share some: 3, 6", hands(45, 50, 59).hand(50), 3);
        DUE.is("sets that share some: 5, 6", hands(59, 45, 50).hand(50), 5);
    }

    private static void handOfNoneAndEight() {
        DUE.says("HAND, without STROKES and with 8");
        DUE.is("none", Walls.plain(0).hand(50), 0);
        DUE.is("none near", hands(0, 99).hand(50), 0);
        DUE.is("eight", hands(50, 51, 52, 53, 54, 55, 56, 59).hand(50), 255);
        DUE.is("eight, one too high", hands(50, 51, 52, 53, 54, 55, 56, 60).hand(50), 127);
        DUE.is("eight, one 10 from another", hands(49, 51, 52, 53, 54, 55, 56, 59).hand(50), 127);
        DUE.is("the eighth alone", hands(0, 0, 0, 0, 0, 0, 0, 99).hand(99), 128);
    }
}
