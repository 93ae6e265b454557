/** Sentences on draws and VOICES (promises 26 to 29) that name a boundary case, each by a test of its own. */
public final class EdgesVoicesTest {
    private static final Due DUE = new Due("EdgesVoicesTest");
    private static final int LEAST = Integer.MIN_VALUE;
    private static final int GREATEST = Integer.MAX_VALUE;

    public static void main(String[] args) {
        againWithoutLooks();
        againDrawsForEachLook();
        restIsHowWellOrMore();
        restFrom0To99();
        zWraps();
        zBelowZero();
        turnedRound();
        againOfTwelve();
        seedTakesAnyNumber();
        voiceByStrokeAndAct();
        numbersGoRound();
        numberAndM();
        bodyOfTheNextKindAbove();
        traceWithoutVoice();
        traceByPlace();
        traceIsOfTheLatest();
        traceIsNotOfARefusedVoice();
        traceBeginsFirst();
        DUE.end();
    }

    private static int drawOn(int z) {
        return z * 1103515245 + 12345;
    }

    private static void againWithoutLooks() {
        DUE.says("All LOOKS by numbers: a draw (none without LOOKS)");
        for (int n = 0; n <= 8; n += 8) {
            HandOverHorse x = Walls.plain(n);
            DUE.is("again()", x.again(), 0);
            DUE.is("z stays", x.count(5), 1);
        }
    }

    private static void againDrawsForEachLook() {
        DUE.says("each draw makes it z * 1103515245 + 12345 (one for each LOOK)");
        int z = 1;
        for (int n = 1; n <= 12; n++) {
            HandOverHorse x = Walls.plain(2);
            for (int i = 0; i < n; i++) {
                x.over(0, 1, 99);
            }
            z = drawOn(z);
            x.again();
            DUE.is("z behind again() of " + n, x.count(5), z);
        }
    }

    /** A z from which the first draw leaves such a rest by 100. */
    private static int zFor(int rest) {
        int z = 0;
        while ((drawOn(z) >>> 8) % 100 != rest) {
            z++;
        }
        return z;
    }

    private static void turnsIs(int rest, int seen, int want) {
        HandOverHorse x = Walls.plain(2);
        x.over(0, 1, seen);
        x.seed(zFor(rest));
        DUE.is("rest " + rest + ", SEEN " + seen, x.again(), want);
        DUE.is("the one OVER", x.ofLook(0, 0), want);
        DUE.is("the other one", x.ofLook(0, 1), 1 - want);
        DUE.is("SEEN stays", x.ofLook(0, 2), seen);
    }

    private static void restIsHowWellOrMore() {
        DUE.says("if its rest by 100 is how well it is SEEN, or more, the LOOK is turned round");
        for (int seen : new int[] {1, 2, 50, 98, 99}) {
            turnsIs(seen, seen, 1);
            turnsIs(seen - 1, seen, 0);
            if (seen < 99) {
                turnsIs(seen + 1, seen, 1);
            }
        }
    }

    private static void restFrom0To99() {
        DUE.says("its rest by 100 (0 to 99)");
        turnsIs(0, 1, 0);
        turnsIs(0, 99, 0);
        turnsIs(99, 1, 1);
        turnsIs(99, 99, 1);
    }

    private static void zWraps() {
        DUE.says("each draw makes it z * 1103515245 + 12345 (an int)");
        for (int z : new int[] {0, -1, LEAST, GREATEST, 65536, 1103515245}) {
            HandOverHorse x = Walls.plain(2);
            x.over(0, 1, 50);
            x.seed(z);
            int turned = (drawOn(z) >>> 8) % 100 >= 50 ? 1 : 0;
            DUE.is("again() from z " + z, x.again(), turned);
            DUE.is("z behind " + z, x.count(5), (int) (z * 1103515245L + 12345L));
        }
    }

    private static void zBelowZero() {
        DUE.says("and gives z >>> 8 (never below 0)");
        int tried = 0;
        for (int z = 0; tried < 20; z++) {
            if (drawOn(z) < 0) {
                tried++;
                HandOverHorse x = Walls.plain(2);
                int rest = (drawOn(z) >>> 8) % 100;
                x.over(0, 1, Math.max(1, rest));
                x.seed(z);
                DUE.is("again() from z " + z, x.again(), rest == 0 ? 0 : 1);
            }
        }
    }

    private static void turnedRound() {
        DUE.says("the LOOK is turned round (the one OVER is the other one)");
        HandOverHorse x = Walls.plain(8);
        x.over(7, 2, 1);
        DUE.is("orders()", x.orders(), 20160);
        DUE.is("sure(7, 2)", x.sure(7, 2), 1);
        x.seed(zFor(50));
        DUE.is("again()", x.again(), 1);
        DUE.is("the one OVER", x.ofLook(0, 0), 2);
        DUE.is("the other one", x.ofLook(0, 1), 7);
        DUE.is("sure(7, 2)", x.sure(7, 2), -1);
        x.seed(zFor(50));
        DUE.is("again() once more", x.again(), 1);
        DUE.is("the one OVER", x.ofLook(0, 0), 7);
    }

    private static void againOfTwelve() {
        DUE.says("All LOOKS by numbers (12 of them): how many LOOKS are turned round");
        HandOverHorse x = Walls.plain(3);
        for (int i = 0; i < 12; i++) {
            x.over(i % 3, (i + 1) % 3, 1 + 8 * i);
        }
        int z = GREATEST;
        x.seed(z);
        int turned = 0;
        int[] over = new int[12];
        for (int i = 0; i < 12; i++) {
            z = drawOn(z);
            boolean turns = (z >>> 8) % 100 >= 1 + 8 * i;
            over[i] = turns ? (i + 1) % 3 : i % 3;
            turned += turns ? 1 : 0;
        }
        DUE.is("again()", x.again(), turned);
        for (int i = 0; i < 12; i++) {
            DUE.is("the one OVER of " + i, x.ofLook(i, 0), over[i]);
        }
        DUE.is("z", x.count(5), z);
    }

    private static void seedTakesAnyNumber() {
        DUE.says("z becomes v: what it was (any number)");
        HandOverHorse x = new HandOverHorse();
        int was = 1;
        for (int v : new int[] {0, LEAST, GREATEST, -1, Due.BEYOND, Due.NONE, Due.STATE, Due.FULL, Due.KIND, Due.LOW, 1}) {
            DUE.is("seed(" + v + ")", x.seed(v), was);
            DUE.is("count(5)", x.count(5), v);
            was = v;
        }
        for (int k = 1; k <= 5; k++) {
            DUE.is("no ERROR: told(" + k + ")", x.told(k), 0);
        }
    }

    private static void voiceByStrokeAndAct() {
        DUE.says("A VOICE of a STROKE: BEYOND");
        for (int n = 0; n <= 8; n++) {
            HandOverHorse x = Walls.plain(n);
            for (int s : new int[] {-1, n, LEAST, GREATEST}) {
                for (int act = 0; act < 4; act++) {
                    DUE.is("voice(" + s + ", " + act + ", 0) of " + n, x.voice(s, act, 0), Due.BEYOND);
                }
            }
            if (n > 0) {
                for (int act : new int[] {-1, 4, LEAST, GREATEST}) {
                    DUE.is("voice(0, " + act + ", 0) of " + n, x.voice(0, act, 0), Due.BEYOND);
                }
                DUE.is("draws", x.voice(n - 1, 0, 5), 5 + n - 1);
                DUE.is("dries", x.voice(n - 1, 1, 5), (5 + n - 1) * 2);
                DUE.is("peels", x.voice(n - 1, 2, 5), 5);
                DUE.is("tells", x.voice(n - 1, 3, 5), (5 + n - 1) * 2 ^ 5);
            }
        }
    }

    /** A STROKE of each KIND, number n and m 9, and the answer of a voice of it. */
    private static void voiceIs(int kind, int number, int act, int v, int want) {
        HandOverHorse x = Walls.plain(8);
        x.become(number, kind * 10 + 9);
        String call = "KIND " + kind + ": voice(" + number + ", " + act + ", " + v + ")";
        DUE.is(call, x.voice(number, act, v), want);
        DUE.is(call + " is no ERROR", x.told(1), 0);
    }

    private static void numbersGoRound() {
        DUE.says("with a number x (ints that go round)");
        for (int x : new int[] {LEAST, LEAST + 1, GREATEST - 1, GREATEST, 0, -1, Due.BEYOND}) {
            int n = 7;
            int draws = x + n;
            int peels = x - 9;
            int red = (x + n) * 2 - (1 - 9);
            int child = (x + 1 + n) * 2 - (1 - 9);
            int black = (x + n) * 3;
            int forged = -(x - 9) ^ n;
            int[][] voices = {
                {draws, draws * 2, peels, draws * 2 ^ peels},
                {draws, red, peels, red ^ peels},
                {black, black * 2, peels, black * 2 ^ peels},
                {draws, draws * 2, -peels, draws * 2 ^ -peels},
                {draws, child, peels, child ^ peels},
                {black, black * 2, peels, (black * 2 ^ peels) - (2 + n) * 3},
                {draws, draws * 2, forged, draws * 2 - (draws * 2 ^ forged)}};
            for (int kind = 0; kind < 7; kind++) {
                for (int act = 0; act < 4; act++) {
                    voiceIs(kind, n, act, x, voices[kind][act]);
                }
            }
        }
    }

    private static void numberAndM() {
        DUE.says("n is its number, m as told");
        voiceIs(0, 0, 0, 0, 0);
        voiceIs(0, 7, 0, 0, 7);
        voiceIs(6, 5, 2, 9, 5);
        HandOverHorse x = Walls.plain(1);
        DUE.is("m 0", x.voice(0, 2, 3), 3);
        x.become(0, 9);
        DUE.is("m 9", x.voice(0, 2, 3), -6);
        x.become(0, 14);
        DUE.is("m 4", x.voice(0, 2, 3), -1);
    }

    private static void bodiesAre(int kind, int act, int... bodies) {
        HandOverHorse x = Walls.of(kind * 10);
        x.voice(0, act, 1);
        String of = " of KIND " + kind + ", act " + act;
        DUE.is("count(4)" + of, x.count(4), bodies.length);
        for (int i = 0; i < bodies.length; i++) {
            DUE.is("trace(" + i + ")" + of, x.trace(i), bodies[i]);
        }
        DUE.is("trace(" + bodies.length + ")" + of, x.trace(bodies.length), Due.NONE);
    }

    private static void bodyOfTheNextKindAbove() {
        DUE.says("draws(..) is the BODY of its KIND, or of the next KIND above that has one");
        int[][] first = {{10, 11, 12, 13}, {10, 20, 12, 13}, {30, 11, 12, 13}, {10, 11, 40, 13},
            {10, 50, 12, 13}, {30, 11, 12, 60}, {10, 11, 70, 71}};
        for (int kind = 0; kind < 7; kind++) {
            for (int act = 0; act < 4; act++) {
                HandOverHorse x = Walls.of(kind * 10);
                x.voice(0, act, 1);
                DUE.is("the first BODY of KIND " + kind + ", act " + act, x.trace(0), first[kind][act]);
            }
        }
        bodiesAre(4, 0, 10);
        bodiesAre(4, 2, 12);
        bodiesAre(5, 0, 30, 10);
        bodiesAre(5, 1, 11, 30, 10);
        bodiesAre(6, 0, 10);
        bodiesAre(6, 1, 11, 10);
    }

    private static void traceWithoutVoice() {
        DUE.says("THE TRACE's i-th. NONE: there is none such (without a voice).");
        HandOverHorse x = Walls.plain(1);
        for (int i : new int[] {-1, 0, 1, 39, 40, LEAST, GREATEST}) {
            DUE.is("trace(" + i + ")", x.trace(i), Due.NONE);
        }
        DUE.is("count(4)", x.count(4), 0);
        DUE.is("told(2)", x.told(2), 7);
    }

    private static void traceByPlace() {
        DUE.says("THE TRACE's i-th. NONE: there is none such.");
        HandOverHorse x = Walls.of(60);
        x.voice(0, 3, 1);
        int[] bodies = {71, 11, 10, 13, 11, 10, 70, 40, 12};
        for (int i = 0; i < 9; i++) {
            DUE.is("trace(" + i + ")", x.trace(i), bodies[i]);
        }
        for (int i : new int[] {-1, 9, 10, 39, 40, 41, LEAST, GREATEST}) {
            DUE.is("trace(" + i + ")", x.trace(i), Due.NONE);
        }
        DUE.is("count(4)", x.count(4), 9);
    }

    private static void traceIsOfTheLatest() {
        DUE.says("THE TRACE: the numbers of BODIES of the latest voice()");
        HandOverHorse x = Walls.of(60, 0);
        x.voice(0, 3, 1);
        x.voice(1, 2, 1);
        DUE.is("count(4)", x.count(4), 1);
        DUE.is("trace(0)", x.trace(0), 12);
        DUE.is("trace(1)", x.trace(1), Due.NONE);
        x.voice(1, 2, 1);
        DUE.is("count(4) of the same once more", x.count(4), 1);
        for (int i = 0; i < 50; i++) {
            x.voice(0, 3, i);
        }
        DUE.is("count(4) behind many", x.count(4), 9);
        DUE.is("trace(0) behind many", x.trace(0), 71);
        x.become(0, 0);
        DUE.is("become() leaves it", x.count(4), 9);
    }

    private static void traceIsNotOfARefusedVoice() {
        DUE.says("one that answers an ERROR changes nothing: THE TRACE stays behind a refused voice()");
        HandOverHorse x = Walls.of(10);
        x.voice(0, 1, 1);
        x.voice(1, 0, 1);
        x.voice(-1, 0, 1);
        x.voice(0, 4, 1);
        x.voice(0, -1, 1);
        DUE.is("told(1)", x.told(1), 4);
        DUE.is("count(4)", x.count(4), 4);
        int[] bodies = {20, 11, 10, 12};
        for (int i = 0; i < 4; i++) {
            DUE.is("trace(" + i + ")", x.trace(i), bodies[i]);
        }
    }

    private static void traceBeginsFirst() {
        DUE.says("as they began (what stands left is worked out first)");
        bodiesAre(0, 3, 13, 11, 10, 12);
        bodiesAre(1, 3, 13, 20, 11, 10, 12, 12);
        bodiesAre(2, 3, 13, 11, 30, 10, 12);
        bodiesAre(3, 3, 13, 11, 10, 40, 12);
        bodiesAre(4, 1, 50, 20, 11, 10, 12);
        bodiesAre(4, 3, 13, 50, 20, 11, 10, 12, 12);
        bodiesAre(5, 3, 60, 13, 11, 30, 10, 12, 30, 10);
        bodiesAre(6, 2, 70, 40, 12);
        bodiesAre(6, 3, 71, 11, 10, 13, 11, 10, 70, 40, 12);
    }
}
