/** Promises 26 to 29: again, seed, voice, trace. */
public final class VoicesTest {
    private static final Due DUE = new Due("VoicesTest");

    public static void main(String[] args) {
        again();
        seed();
        voice();
        trace();
        DUE.end();
    }

    private static int drawOn(int z) {
        return z * 1103515245 + 12345;
    }

    private static void again() {
        HandOverHorse x = new HandOverHorse();
        DUE.is("again() without LOOKS", x.again(), 0);
        DUE.is("z stays", x.count(5), 1);
        x.stroke(0, 0, 0);
        x.stroke(0, 0, 0);
        // The first draw: z is 1103527590, less 8 bits 4310654, its rest by 100 is 54.
        x.over(0, 1, 54);
        DUE.is("again(): rest as SEEN", x.again(), 1);
        DUE.is("z is drawn on", x.count(5), 1103527590);
        DUE.is("turned: OVER", x.ofLook(0, 0), 1);
        DUE.is("turned: the other one", x.ofLook(0, 1), 0);
        DUE.is("SEEN stays", x.ofLook(0, 2), 54);
        x.seed(1);
        x.see(0, 55);
        DUE.is("again(): rest below SEEN", x.again(), 0);
        DUE.is("not turned", x.ofLook(0, 0), 1);
        DUE.is("a draw all the same", x.count(5), 1103527590);
        x.seed(-77);
        int z = -77;
        for (int i = 1; i < 12; i++) {
            x.over(i % 2, 1 - i % 2, 5 * i);
        }
        int turned = 0;
        int[] first = new int[12];
        for (int i = 0; i < 12; i++) {
            z = drawOn(z);
            int turns = (z >>> 8) % 100 >= x.ofLook(i, 2) ? 1 : 0;
            turned += turns;
            first[i] = x.ofLook(i, turns);
        }
        DUE.is("again() of 12", x.again(), turned);
        DUE.is("z behind 12", x.count(5), z);
        for (int i = 0; i < 12; i++) {
            DUE.is("OVER of LOOK " + i, x.ofLook(i, 0), first[i]);
        }
    }

    private static void seed() {
        HandOverHorse x = new HandOverHorse();
        DUE.is("seed(5)", x.seed(5), 1);
        DUE.is("seed(BEYOND)", x.seed(Due.BEYOND), 5);
        DUE.is("z", x.count(5), Due.BEYOND);
        DUE.is("seed(0): any number is no ERROR", x.seed(0), Due.BEYOND);
        DUE.is("seed(least)", x.seed(Integer.MIN_VALUE), 0);
        DUE.is("seed(9)", x.seed(9), Integer.MIN_VALUE);
        DUE.is("told(1)", x.told(1), 0);
    }

    /** One of each KIND, m 3, so that number and KIND are the same. */
    private static HandOverHorse kinds() {
        HandOverHorse x = new HandOverHorse();
        for (int kind = 0; kind < 7; kind++) {
            x.stroke(kind * 10 + 3, 0, 0);
        }
        return x;
    }

    private static void voice() {
        HandOverHorse x = kinds();
        DUE.is("voice(7, 0, 0)", x.voice(7, 0, 0), Due.BEYOND);
        DUE.is("voice(-1, 0, 0)", x.voice(-1, 0, 0), Due.BEYOND);
        DUE.is("voice(0, 4, 0)", x.voice(0, 4, 0), Due.BEYOND);
        DUE.is("voice(0, -1, 0)", x.voice(0, -1, 0), Due.BEYOND);
        // x is 10, m 3, n the KIND.
        int[] draws = {10, 11, 36, 13, 14, 45, 16};
        int[] dries = {20, 22 + 2, 72, 26, (11 + 4) * 2 + 2, 90, 32};
        int[] peels = {7, 7, 7, -7, 7, 7, -7 ^ 6};
        int[] tells = {
            20 ^ 7, 24 ^ 7, 72 ^ 7, 26 ^ -7, 32 ^ 7, (90 ^ 7) - (2 + 5) * 3, 32 - (32 ^ -7 ^ 6)};
        for (int kind = 0; kind < 7; kind++) {
            DUE.is("draws of KIND " + kind, x.voice(kind, 0, 10), draws[kind]);
            DUE.is("dries of KIND " + kind, x.voice(kind, 1, 10), dries[kind]);
            DUE.is("peels of KIND " + kind, x.voice(kind, 2, 10), peels[kind]);
            DUE.is("tells of KIND " + kind, x.voice(kind, 3, 10), tells[kind]);
        }
        DUE.is("peels of FORGED, bits that meet", x.voice(6, 2, 3 - 7), -(3 - 7 - 3) ^ 6);
        DUE.is("ints go round", x.voice(2, 0, Integer.MAX_VALUE), (Integer.MIN_VALUE + 1) * 3);
        DUE.is("an answer like an ERROR", x.voice(0, 0, Due.BEYOND), Due.BEYOND);
        DUE.is("is none", x.told(1), 4);
    }

    private static void traceIs(HandOverHorse x, int stroke, int act, int... bodies) {
        String of = " of voice(" + stroke + ", " + act + ", 1)";
        x.voice(stroke, act, 1);
        DUE.is("count(4)" + of, x.count(4), bodies.length);
        for (int i = 0; i < bodies.length; i++) {
            DUE.is("trace(" + i + ")" + of, x.trace(i), bodies[i]);
        }
        DUE.is("trace behind the last" + of, x.trace(bodies.length), Due.NONE);
    }

    private static void trace() {
        HandOverHorse x = kinds();
        DUE.is("trace(0) without a voice", x.trace(0), Due.NONE);
        traceIs(x, 0, 0, 10);
        traceIs(x, 0, 1, 11, 10);
        traceIs(x, 0, 2, 12);
        traceIs(x, 0, 3, 13, 11, 10, 12);
        traceIs(x, 1, 1, 20, 11, 10, 12);
        traceIs(x, 1, 3, 13, 20, 11, 10, 12, 12);
        traceIs(x, 2, 0, 30, 10);
        traceIs(x, 2, 1, 11, 30, 10);
        traceIs(x, 3, 2, 40, 12);
        traceIs(x, 3, 3, 13, 11, 10, 40, 12);
        traceIs(x, 4, 1, 50, 20, 11, 10, 12);
        traceIs(x, 5, 3, 60, 13, 11, 30, 10, 12, 30, 10);
        traceIs(x, 6, 2, 70, 40, 12);
        traceIs(x, 6, 3, 71, 11, 10, 13, 11, 10, 70, 40, 12);
        DUE.is("trace(-1)", x.trace(-1), Due.NONE);
        DUE.is("trace(greatest)", x.trace(Integer.MAX_VALUE), Due.NONE);
        DUE.is("voice(9, 0, 0)", x.voice(9, 0, 0), Due.BEYOND);
        DUE.is("a refused voice leaves THE TRACE", x.count(4), 9);
        DUE.is("a refused voice leaves THE TRACE", x.trace(0), 71);
    }
}
