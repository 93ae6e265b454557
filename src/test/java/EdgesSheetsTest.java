/** Sentences on SHEETS (Terms 4, promises 30 to 34) that name a boundary case, each by a test of its own. */
public final class EdgesSheetsTest {
    private static final Due DUE = new Due("EdgesSheetsTest");
    private static final int LEAST = Integer.MIN_VALUE;
    private static final int GREATEST = Integer.MAX_VALUE;

    public static void main(String[] args) {
        missingAsAtFirst();
        sheetsFrom0To3();
        bitsOf8Or16Or32();
        atMostFortyNumbers();
        stateAheadOfBeyondOfN();
        missingByZeroBits();
        aSheetAnewIsAllZero();
        refusedSheetStays();
        putByPlace();
        putErrorsInOrder();
        lowestBitsWithASign();
        moveErrorsInOrder();
        moveOfUnlikeBits();
        moveStandsThere();
        moveOfNone();
        moveOfForty();
        moveAsTheyAllWere();
        moveToAnother();
        looksErrors();
        looksThatAreWhole();
        looksUpToTheFirstRefused();
        looksUpToTwelve();
        looksOfThirteenThrees();
        judgeErrors();
        judgeWithoutStrokes();
        judgeEightStrokes();
        judgeEarlyAndLate();
        judgeLooks();
        judgeTheFirst();
        DUE.end();
    }

    private static final int[] BITS = {8, 16, 32};

    /** Whether the first numbers of a SHEET are these (0 to 9999); all STROKES are made of KIND STROKE. */
    private static void rowIs(String what, HandOverHorse x, int sheet, int... row) {
        for (int i = 0; i < row.length; i++) {
            if (i >= x.count(0)) {
                x.stroke(0, 0, 0);
            }
            Walls.within(x, i, row[i], row[i]);
        }
        DUE.is(what, x.judge(sheet), x.count(0));
    }

    private static void sizeIs(String what, HandOverHorse x, int sheet, int n) {
        if (n > 0) {
            DUE.is(what + ": the last", x.put(sheet, n - 1, 0), 1);
        }
        DUE.is(what + ": behind the last", x.put(sheet, n, 0), Due.BEYOND);
    }

    private static void missingIs(String what, HandOverHorse x, int sheet) {
        DUE.is(what + ": put()", x.put(sheet, 0, 0), Due.NONE);
        DUE.is(what + ": move()", x.move(sheet, 0, sheet, 0, 0), Due.NONE);
        DUE.is(what + ": looks()", x.looks(sheet), Due.NONE);
        DUE.is(what + ": judge()", x.judge(sheet), Due.NONE);
    }

    private static void missingAsAtFirst() {
        DUE.says("SHEETS 0 .. 3 are rows .., or missing (as at first)");
        HandOverHorse x = new HandOverHorse();
        for (int s = 0; s < 4; s++) {
            missingIs("SHEET " + s, x, s);
        }
        DUE.is("told(2)", x.told(2), 16);
    }

    private static void sheetsFrom0To3() {
        DUE.says("SHEETS 0 .. 3; BEYOND: no such SHEET");
        HandOverHorse x = Walls.plain(1);
        for (int s : new int[] {-1, 4, LEAST, GREATEST}) {
            for (int bits : new int[] {0, 8, 16, 32}) {
                DUE.is("sheet(" + s + ", " + bits + ", 1)", x.sheet(s, bits, 1), Due.BEYOND);
            }
            DUE.is("put(" + s + ", 0, 0)", x.put(s, 0, 0), Due.BEYOND);
            DUE.is("move(" + s + ", 0, 0, 0, 0)", x.move(s, 0, 0, 0, 0), Due.BEYOND);
            DUE.is("move(0, 0, " + s + ", 0, 0)", x.move(0, 0, s, 0, 0), Due.BEYOND);
            DUE.is("looks(" + s + ")", x.looks(s), Due.BEYOND);
            DUE.is("judge(" + s + ")", x.judge(s), Due.BEYOND);
        }
        for (int s = 0; s < 4; s++) {
            DUE.is("sheet(" + s + ", 16, 1)", x.sheet(s, 16, 1), 1);
            DUE.is("put(" + s + ", 0, " + (s + 1) + ")", x.put(s, 0, s + 1), 1);
        }
        for (int s = 0; s < 4; s++) {
            rowIs("SHEET " + s + " has its own number", x, s, s + 1);
        }
    }

    private static void bitsOf8Or16Or32() {
        DUE.says("rows of 8, 16, 32 bits (0: it is missing). BEYOND.");
        HandOverHorse x = new HandOverHorse();
        for (int bits = -8; bits <= 72; bits++) {
            boolean may = bits == 0 || bits == 8 || bits == 16 || bits == 32;
            DUE.is("sheet(0, " + bits + ", 1)", x.sheet(0, bits, 1), may ? 1 : Due.BEYOND);
        }
        for (int bits : new int[] {LEAST, -32, -16, 128, 256 + 8, 65536, GREATEST}) {
            DUE.is("sheet(0, " + bits + ", 1)", x.sheet(0, bits, 1), Due.BEYOND);
        }
    }

    private static void atMostFortyNumbers() {
        DUE.says("at most 40 numbers; A SHEET has n numbers, all 0");
        for (int bits : BITS) {
            HandOverHorse x = new HandOverHorse();
            for (int n : new int[] {0, 1, 39, 40}) {
                DUE.is("sheet(0, " + bits + ", " + n + ")", x.sheet(0, bits, n), 1);
                sizeIs(n + " numbers", x, 0, n);
            }
            for (int n : new int[] {41, 42, 1000, GREATEST}) {
                DUE.is("sheet(0, " + bits + ", " + n + ")", x.sheet(0, bits, n), Due.BEYOND);
            }
            sizeIs("40 yet", x, 0, 40);
        }
    }

    private static void stateAheadOfBeyondOfN() {
        DUE.says("BEYOND. STATE: n is below 0 (ahead of BEYOND of n)");
        HandOverHorse x = new HandOverHorse();
        for (int bits : BITS) {
            for (int n : new int[] {-1, -2, -41, LEAST}) {
                DUE.is("sheet(3, " + bits + ", " + n + ")", x.sheet(3, bits, n), Due.STATE);
            }
        }
        missingIs("still", x, 3);
        DUE.is("no such SHEET ahead of STATE", x.sheet(4, 8, -1), Due.BEYOND);
        DUE.is("no such SHEET ahead of STATE", x.sheet(-1, 8, -1), Due.BEYOND);
        DUE.is("no such bits ahead of STATE", x.sheet(0, 24, -1), Due.BEYOND);
        DUE.is("told(3)", x.told(3), 12);
    }

    private static void missingByZeroBits() {
        DUE.says("0: it is missing, n doesn't matter: 1");
        for (int n : new int[] {0, 1, 40, 41, -1, LEAST, GREATEST}) {
            HandOverHorse x = Walls.plain(1);
            Walls.row(x, 2, 8, 5, 6, 7);
            DUE.is("sheet(2, 0, " + n + ")", x.sheet(2, 0, n), 1);
            missingIs("behind it", x, 2);
            DUE.is("sheet(2, 0, " + n + ") of a missing one", x.sheet(2, 0, n), 1);
            DUE.is("told(1)", x.told(1), 0);
            DUE.is("told(3)", x.told(3), 0);
            DUE.is("no such SHEET", x.sheet(4, 0, n), Due.BEYOND);
        }
    }

    private static void aSheetAnewIsAllZero() {
        DUE.says("A SHEET has n numbers, all 0 (also one that is there)");
        HandOverHorse x = Walls.plain(8);
        for (int bits : BITS) {
            Walls.row(x, 1, bits, 9, 9, 9, 9, 9, 9, 9, 9, 9);
            rowIs("as put", x, 1, 9, 9, 9, 9, 9, 9, 9, 9);
            DUE.is("fewer", x.sheet(1, bits, 3), 1);
            sizeIs("fewer", x, 1, 3);
            DUE.is("as many", x.sheet(1, bits, 8), 1);
            rowIs("as many", x, 1, 0, 0, 0, 0, 0, 0, 0, 0);
        }
        Walls.row(x, 1, 32, 9, 9, 9, 9, 9, 9, 9, 9);
        x.sheet(1, 0, 0);
        x.sheet(1, 8, 8);
        rowIs("behind it was missing", x, 1, 0, 0, 0, 0, 0, 0, 0, 0);
        x.sheet(3, 8, 40);
        for (int i = 0; i < 40; i++) {
            x.put(3, i, 7);
        }
        x.sheet(3, 8, 40);
        for (int from = 0; from < 40; from += 8) {
            x.move(3, from, 3, 0, 8);
            rowIs("all 40", x, 3, 0, 0, 0, 0, 0, 0, 0, 0);
        }
    }

    private static void refusedSheetStays() {
        DUE.says("one that answers an ERROR changes nothing: a refused sheet() leaves the SHEET");
        HandOverHorse x = Walls.plain(3);
        Walls.row(x, 0, 8, 1, 2, 3);
        DUE.is("sheet(0, 16, 41)", x.sheet(0, 16, 41), Due.BEYOND);
        DUE.is("sheet(0, 16, -1)", x.sheet(0, 16, -1), Due.STATE);
        DUE.is("sheet(0, 7, 3)", x.sheet(0, 7, 3), Due.BEYOND);
        sizeOfThree(x);
        rowIs("its numbers", x, 0, 1, 2, 0);
        x.put(0, 0, 256 + 4);
        rowIs("its bits", x, 0, 4, 2, 0);
    }

    private static void sizeOfThree(HandOverHorse x) {
        sizeIs("its size", x, 0, 3);
    }

    private static void putByPlace() {
        DUE.says("Number i of a SHEET becomes v: 1. BEYOND: no such number.");
        for (int n = 0; n <= 40; n += 20) {
            HandOverHorse x = Walls.plain(1);
            x.sheet(0, 16, n);
            for (int i : new int[] {-1, n, n + 1, LEAST, GREATEST}) {
                DUE.is("put(0, " + i + ", 5) of " + n, x.put(0, i, 5), Due.BEYOND);
            }
            for (int i = 0; i < n; i++) {
                DUE.is("put(0, " + i + ", 5) of " + n, x.put(0, i, 5), 1);
            }
        }
        HandOverHorse x = Walls.plain(8);
        Walls.row(x, 0, 8, 1, 2, 3, 4, 5, 6, 7, 8);
        x.put(0, 0, 11);
        x.put(0, 7, 18);
        x.put(0, 3, 14);
        rowIs("only those", x, 0, 11, 2, 3, 14, 5, 6, 7, 18);
    }

    private static void putErrorsInOrder() {
        DUE.says("BEYOND: no such SHEET. NONE: it is missing. BEYOND: no such number.");
        HandOverHorse x = new HandOverHorse();
        DUE.is("put(4, -1, 0)", x.put(4, -1, 0), Due.BEYOND);
        DUE.is("put(-1, 0, 0)", x.put(-1, 0, 0), Due.BEYOND);
        DUE.is("put(3, -1, 0) of a missing one", x.put(3, -1, 0), Due.NONE);
        DUE.is("put(3, 40, 0) of a missing one", x.put(3, 40, 0), Due.NONE);
        x.sheet(3, 8, 0);
        DUE.is("put(3, 0, 0) of one without numbers", x.put(3, 0, 0), Due.BEYOND);
        DUE.is("told(1)", x.told(1), 3);
        DUE.is("told(2)", x.told(2), 2);
    }

    /** v put into a number of so many bits is want; below 0: some number below 0. */
    private static void putIs(int bits, int v, int want) {
        HandOverHorse x = Walls.plain(2);
        Walls.row(x, 0, bits, 0, v);
        Walls.within(x, 1, Math.max(want, 0), want < 0 ? 9999 : want);
        DUE.is(v + " in " + bits + " bits", x.judge(0), want < 0 || want > 9999 ? 1 : 2);
    }

    private static void lowestBitsWithASign() {
        DUE.says("becomes v (its lowest bits); rows of 8, 16, 32 bits (with a sign)");
        int[][] eights = {{0, 0}, {1, 1}, {127, 127}, {128, -1}, {129, -1}, {255, -1}, {256, 0}, {257, 1}, {383, 127},
            {384, -1}, {-1, -1}, {-128, -1}, {-129, 127}, {-255, 1}, {-256, 0}, {9999, 15}, {65536, 0},
            {LEAST, 0}, {GREATEST, -1}};
        for (int[] pair : eights) {
            putIs(8, pair[0], pair[1]);
        }
        int[][] sixteens = {{0, 0}, {127, 127}, {128, 128}, {256, 256}, {9999, 9999}, {32768, -1}, {65535, -1},
            {65536, 0}, {65537, 1}, {65536 + 9999, 9999}, {-1, -1}, {-32768, -1}, {-65535, 1}, {-65536, 0},
            {LEAST, 0}, {GREATEST, -1}};
        for (int[] pair : sixteens) {
            putIs(16, pair[0], pair[1]);
        }
        int[][] thirtyTwos = {{0, 0}, {128, 128}, {9999, 9999}, {32768, 32768}, {65536, 65536}, {65537, 65537},
            {-1, -1}, {-65535, -1}, {LEAST, -1}, {GREATEST, GREATEST}};
        for (int[] pair : thirtyTwos) {
            HandOverHorse x = Walls.plain(1);
            Walls.row(x, 0, 32, pair[0]);
            Walls.within(x, 0, Math.max(0, Math.min(pair[1], 9999)), Math.max(0, Math.min(pair[1], 9999)));
            DUE.is(pair[0] + " in 32 bits", x.judge(0), pair[1] >= 0 && pair[1] <= 9999 ? 1 : 0);
        }
        HandOverHorse looks = Walls.plain(2);
        Walls.row(looks, 0, 8, 256, 257, 512 + 99);
        DUE.is("looks() by the lowest bits", looks.looks(0), 1);
        DUE.is("SEEN", looks.ofLook(0, 2), 99);
    }

    private static void moveErrorsInOrder() {
        DUE.says("BEYOND: no such SHEET. NONE: one is missing. KIND: they are of unlike bits. BEYOND: ..");
        HandOverHorse x = new HandOverHorse();
        DUE.is("no such SHEET, the other missing", x.move(4, 0, 0, 0, 0), Due.BEYOND);
        DUE.is("missing, the other no such SHEET", x.move(0, 0, -1, 0, 0), Due.BEYOND);
        DUE.is("both missing", x.move(0, -1, 1, -1, -1), Due.NONE);
        DUE.is("the same, missing", x.move(0, 0, 0, 0, 0), Due.NONE);
        x.sheet(0, 8, 4);
        DUE.is("to a missing one", x.move(0, 0, 1, 0, 1), Due.NONE);
        DUE.is("from a missing one", x.move(1, 0, 0, 0, 1), Due.NONE);
        DUE.is("missing ahead of places", x.move(0, -1, 1, 99, -7), Due.NONE);
        x.sheet(1, 16, 4);
        DUE.is("unlike bits", x.move(0, 0, 1, 0, 1), Due.KIND);
        DUE.is("unlike bits ahead of n", x.move(0, 0, 1, 0, -1), Due.KIND);
        DUE.is("unlike bits ahead of i", x.move(0, -1, 1, 0, 1), Due.KIND);
        DUE.is("unlike bits ahead of j", x.move(0, 0, 1, 5, 1), Due.KIND);
        DUE.is("told(1)", x.told(1), 2);
        DUE.is("told(2)", x.told(2), 5);
        DUE.is("told(5)", x.told(5), 4);
    }

    private static void moveOfUnlikeBits() {
        DUE.says("KIND: they are of unlike bits (also with n 0, and without numbers)");
        for (int bits : BITS) {
            for (int other : BITS) {
                HandOverHorse x = new HandOverHorse();
                x.sheet(0, bits, 4);
                x.sheet(1, other, 4);
                x.sheet(2, other, 0);
                String of = " of " + bits + " and " + other;
                DUE.is("n 4" + of, x.move(0, 0, 1, 0, 4), bits == other ? 4 : Due.KIND);
                DUE.is("n 0" + of, x.move(0, 0, 1, 0, 0), bits == other ? 0 : Due.KIND);
                DUE.is("n 0, no numbers" + of, x.move(0, 0, 2, 0, 0), bits == other ? 0 : Due.KIND);
            }
        }
    }

    private static HandOverHorse fourAndThree() {
        HandOverHorse x = Walls.plain(4);
        Walls.row(x, 0, 16, 1, 2, 3, 4);
        Walls.row(x, 1, 16, 5, 6, 7);
        return x;
    }

    private static void moveStandsThere() {
        DUE.says("BEYOND: n, i, or j is below 0, or they don't stand there");
        for (int i = -2; i <= 6; i++) {
            for (int j = -2; j <= 6; j++) {
                for (int n = -2; n <= 6; n++) {
                    boolean stand = n >= 0 && i >= 0 && j >= 0 && i + n <= 4 && j + n <= 3;
                    DUE.is("move(0, " + i + ", 1, " + j + ", " + n + ")", fourAndThree().move(0, i, 1, j, n),
                            stand ? n : Due.BEYOND);
                }
            }
        }
        for (int edge : new int[] {LEAST, GREATEST, GREATEST - 1, LEAST + 1}) {
            HandOverHorse x = fourAndThree();
            DUE.is("i " + edge, x.move(0, edge, 1, 0, 2), Due.BEYOND);
            DUE.is("j " + edge, x.move(0, 0, 1, edge, 2), Due.BEYOND);
            DUE.is("n " + edge, x.move(0, 2, 1, 2, edge), Due.BEYOND);
            DUE.is("i, n " + edge, x.move(0, edge, 1, 0, edge), Due.BEYOND);
            DUE.is("j, n " + edge, x.move(0, 0, 1, edge, edge), Due.BEYOND);
            DUE.is("all " + edge, x.move(0, edge, 1, edge, edge), Due.BEYOND);
            rowIs("nothing has moved", x, 0, 1, 2, 3, 4);
        }
    }

    private static void moveOfNone() {
        DUE.says("or they don't stand there (also with n 0)");
        HandOverHorse x = fourAndThree();
        DUE.is("from the end to the end", x.move(0, 4, 1, 3, 0), 0);
        DUE.is("from behind the end", x.move(0, 5, 1, 3, 0), Due.BEYOND);
        DUE.is("to behind the end", x.move(0, 4, 1, 4, 0), Due.BEYOND);
        DUE.is("from ahead of all", x.move(0, -1, 1, 0, 0), Due.BEYOND);
        DUE.is("to ahead of all", x.move(0, 0, 1, -1, 0), Due.BEYOND);
        rowIs("nothing has moved", x, 0, 1, 2, 3, 4);
        x.sheet(2, 16, 0);
        DUE.is("none of none", x.move(2, 0, 2, 0, 0), 0);
        DUE.is("one of none", x.move(2, 0, 2, 0, 1), Due.BEYOND);
        DUE.is("none of none, behind its end", x.move(2, 1, 2, 0, 0), Due.BEYOND);
        DUE.is("none of none, to behind its end", x.move(2, 0, 2, 1, 0), Due.BEYOND);
    }

    private static void moveOfForty() {
        DUE.says("n numbers of a SHEET come to another one: n (all 40)");
        HandOverHorse x = Walls.plain(8);
        x.sheet(0, 8, 40);
        x.sheet(3, 8, 40);
        for (int i = 0; i < 40; i++) {
            x.put(0, i, i + 1);
        }
        DUE.is("41 of 40", x.move(0, 0, 3, 0, 41), Due.BEYOND);
        DUE.is("40 of 40", x.move(0, 0, 3, 0, 40), 40);
        DUE.is("40 of 40 from the second", x.move(0, 1, 3, 0, 40), Due.BEYOND);
        DUE.is("39 of 40 from the second", x.move(3, 1, 3, 0, 39), 39);
        rowIs("the first", x, 3, 2, 3, 4, 5, 6, 7, 8, 9);
        DUE.is("the last to the first place", x.move(3, 32, 3, 0, 8), 8);
        rowIs("the last", x, 3, 34, 35, 36, 37, 38, 39, 40, 40);
    }

    private static void moveAsTheyAllWere() {
        DUE.says("come to another one (or the same), from its number j on, as they all were");
        for (int bits : BITS) {
            HandOverHorse up = Walls.plain(6);
            Walls.row(up, 0, bits, 1, 2, 3, 4, 5, 6);
            DUE.is("upwards", up.move(0, 0, 0, 2, 4), 4);
            rowIs("upwards", up, 0, 1, 2, 1, 2, 3, 4);
            HandOverHorse down = Walls.plain(6);
            Walls.row(down, 0, bits, 1, 2, 3, 4, 5, 6);
            DUE.is("downwards", down.move(0, 2, 0, 0, 4), 4);
            rowIs("downwards", down, 0, 3, 4, 5, 6, 5, 6);
            HandOverHorse one = Walls.plain(6);
            Walls.row(one, 0, bits, 1, 2, 3, 4, 5, 6);
            DUE.is("by one place", one.move(0, 0, 0, 1, 5), 5);
            rowIs("by one place", one, 0, 1, 1, 2, 3, 4, 5);
            DUE.is("to where they are", one.move(0, 1, 0, 1, 5), 5);
            rowIs("to where they are", one, 0, 1, 1, 2, 3, 4, 5);
        }
    }

    private static void moveToAnother() {
        DUE.says("n numbers of a SHEET, from number i on, come to another one, from its number j on: n");
        HandOverHorse x = fourAndThree();
        DUE.is("two", x.move(0, 2, 1, 1, 2), 2);
        rowIs("where they came from", x, 0, 1, 2, 3, 4);
        HandOverHorse y = Walls.plain(3);
        Walls.row(y, 0, 16, 1, 2, 3, 4);
        Walls.row(y, 1, 16, 5, 6, 7);
        DUE.is("two", y.move(0, 2, 1, 1, 2), 2);
        rowIs("where they came to", y, 1, 5, 3, 4);
        y.put(0, 2, 99);
        rowIs("they are apart", y, 1, 5, 3, 4);
    }

    private static void looksErrors() {
        DUE.says("LOOKS from a SHEET. BEYOND: no such SHEET. NONE: it is missing.");
        HandOverHorse x = Walls.plain(2);
        for (int s = 0; s < 4; s++) {
            DUE.is("looks(" + s + ") of a missing one", x.looks(s), Due.NONE);
        }
        DUE.is("looks(-1)", x.looks(-1), Due.BEYOND);
        DUE.is("looks(4)", x.looks(4), Due.BEYOND);
        x.sheet(3, 32, 3);
        DUE.is("looks(3)", x.looks(3), 0);
    }

    private static void looksThatAreWhole() {
        DUE.says("threes, from number 0 on, up to the first that isn't whole (no ERROR then): how many came");
        for (int bits : BITS) {
            for (int n = 0; n <= 9; n++) {
                HandOverHorse x = Walls.plain(2);
                int[] row = new int[n];
                for (int i = 0; i < n; i++) {
                    row[i] = i % 3 == 0 ? 1 : i % 3 == 1 ? 0 : 60 + i;
                }
                Walls.row(x, 0, bits, row);
                DUE.is("looks(0) of " + n + " numbers", x.looks(0), n / 3);
                DUE.is("count(1)", x.count(1), n / 3);
                DUE.is("the last", x.ofLook(n / 3 - 1, 2), n < 3 ? Due.BEYOND : 62 + 3 * (n / 3 - 1));
                DUE.is("told(1)", x.told(1), n < 3 ? 1 : 0);
            }
        }
        DUE.says("LOOKS from a SHEET (what a longer SHEET left behind is none)");
        HandOverHorse x = Walls.plain(2);
        Walls.row(x, 0, 8, 1, 0, 50, 1, 0, 50);
        x.sheet(0, 8, 5);
        Walls.row(x, 0, 8, 1, 0, 50, 1, 0);
        DUE.is("looks(0)", x.looks(0), 1);
    }

    private static void refusedIs(int one, int other, int seen) {
        HandOverHorse x = Walls.plain(3);
        Walls.row(x, 0, 32, 1, 0, 50, 2, 1, 51, one, other, seen, 2, 0, 52);
        DUE.is("looks(0) up to " + one + ", " + other + ", " + seen, x.looks(0), 2);
        DUE.is("count(1)", x.count(1), 2);
        DUE.is("the second", x.ofLook(1, 2), 51);
        for (int k = 1; k <= 5; k++) {
            DUE.is("no ERROR: told(" + k + ")", x.told(k), 0);
        }
    }

    private static void looksUpToTheFirstRefused() {
        DUE.says("up to the first that over() would refuse (no ERROR then): how many came");
        refusedIs(3, 0, 50);
        refusedIs(-1, 0, 50);
        refusedIs(0, 3, 50);
        refusedIs(0, -1, 50);
        refusedIs(1, 1, 50);
        refusedIs(1, 0, 0);
        refusedIs(1, 0, 100);
        refusedIs(LEAST, 0, 50);
        refusedIs(0, GREATEST, 50);
        refusedIs(0, 1, LEAST);
        HandOverHorse x = Walls.plain(3);
        Walls.row(x, 0, 8, 1, 0, 1, 2, 1, 99, 0, 2, 99);
        DUE.is("SEEN 1 and 99 are not refused", x.looks(0), 3);
        int[] parts = {1, 0, 1, 2, 1, 99, 0, 2, 99};
        for (int i = 0; i < 9; i++) {
            DUE.is("ofLook(" + i / 3 + ", " + i % 3 + ")", x.ofLook(i / 3, i % 3), parts[i]);
        }
        DUE.is("looks() once more", x.looks(0), 3);
        DUE.is("count(1)", x.count(1), 6);
    }

    private static void looksUpToTwelve() {
        DUE.says("up to the first that over() would refuse (FULL: there are 12)");
        for (int there = 9; there <= 12; there++) {
            HandOverHorse x = Walls.plain(2);
            for (int i = 0; i < there; i++) {
                x.over(0, 1, 1);
            }
            Walls.row(x, 0, 8, 1, 0, 50, 1, 0, 51, 1, 0, 52, 1, 0, 53);
            DUE.is("looks(0) with " + there + " there", x.looks(0), 12 - there);
            DUE.is("count(1)", x.count(1), 12);
            DUE.is("no FULL: told(4)", x.told(4), 0);
            DUE.is("the 12th", x.ofLook(11, 2), there == 12 ? 1 : 61 - there);
        }
    }

    private static void looksOfThirteenThrees() {
        DUE.says("threes of 40 numbers: 13 are whole, 12 come");
        HandOverHorse x = Walls.plain(2);
        int[] row = new int[40];
        for (int i = 0; i < 40; i++) {
            row[i] = i % 3 == 1 ? 0 : 1;
        }
        Walls.row(x, 0, 8, row);
        DUE.is("looks(0)", x.looks(0), 12);
        DUE.is("looks(0) once more", x.looks(0), 0);
        x.forget();
        DUE.is("looks(0) behind forget()", x.looks(0), 1);
        DUE.is("told(4)", x.told(4), 0);
    }

    private static void judgeErrors() {
        DUE.says("Numbers of a SHEET are YEARS. BEYOND: no such SHEET. NONE: it is missing.");
        HandOverHorse x = Walls.plain(2);
        for (int s = 0; s < 4; s++) {
            DUE.is("judge(" + s + ") of a missing one", x.judge(s), Due.NONE);
        }
        DUE.is("judge(-1)", x.judge(-1), Due.BEYOND);
        DUE.is("judge(4)", x.judge(4), Due.BEYOND);
        x.sheet(3, 32, 2);
        DUE.is("judge(3)", x.judge(3), 2);
    }

    private static void judgeWithoutStrokes() {
        DUE.says("as many as there are STROKES, if all are so (0 without STROKES)");
        for (int n = 0; n <= 40; n += 20) {
            HandOverHorse x = Walls.plain(0);
            x.sheet(0, 8, n);
            DUE.is("judge(0) of " + n + " numbers", x.judge(0), 0);
        }
        HandOverHorse x = Walls.plain(0);
        DUE.is("a missing one, without STROKES", x.judge(0), Due.NONE);
    }

    private static void judgeEightStrokes() {
        DUE.says("or for which there is no number");
        for (int n = 0; n <= 9; n++) {
            HandOverHorse x = Walls.plain(8);
            x.sheet(0, 16, n);
            DUE.is("judge(0) of " + n + " numbers, 8 STROKES", x.judge(0), Math.min(n, 8));
        }
        HandOverHorse x = Walls.chain(8);
        Walls.row(x, 0, 16, 0, 1, 2, 3, 4, 5, 6, 7);
        DUE.is("a chain of 8", x.judge(0), 8);
        for (int i = 1; i < 8; i++) {
            x.put(0, i, i - 1);
            DUE.is("the same YEAR as the one ahead", x.judge(0), i);
            x.put(0, i, i);
        }
    }

    private static void judgeEarlyAndLate() {
        DUE.says("the first STROKE whose YEAR isn't within its EARLY and LATE");
        HandOverHorse x = Walls.plain(3);
        Walls.within(x, 1, 100, 120);
        for (int year : new int[] {99, 100, 101, 119, 120, 121, -1, 0, 9999}) {
            Walls.row(x, 0, 16, 0, year, 9999);
            DUE.is("the second in " + year, x.judge(0), year >= 100 && year <= 120 ? 3 : 1);
        }
        Walls.row(x, 0, 32, 0, 100, 10000);
        DUE.is("the third in 10000", x.judge(0), 2);
        Walls.row(x, 0, 32, -1, 100, 10000);
        DUE.is("the first in -1", x.judge(0), 0);
        HandOverHorse soot = Walls.of(50);
        soot.change(0, 6, 99);
        for (int year : new int[] {98, 99, 9801, 9802}) {
            Walls.row(soot, 0, 16, year);
            DUE.is("SOOT in " + year, soot.judge(0), year == 99 || year == 9801 ? 1 : 0);
        }
    }

    private static void judgeLooks() {
        DUE.says("or by which (with those ahead of it) a LOOK isn't held (the one OVER a YEAR later at least)");
        for (int year = 48; year <= 52; year++) {
            HandOverHorse x = Walls.plain(2);
            x.over(0, 1, 1);
            Walls.row(x, 0, 16, 50, year);
            DUE.is("0 in 50 over 1 in " + year, x.judge(0), year <= 49 ? 2 : 1);
            HandOverHorse y = Walls.plain(2);
            y.over(1, 0, 1);
            Walls.row(y, 0, 16, 50, year);
            DUE.is("1 in " + year + " over 0 in 50", y.judge(0), year >= 51 ? 2 : 1);
        }
        HandOverHorse far = Walls.plain(2);
        far.over(0, 1, 1);
        Walls.row(far, 0, 16, 9999, 0);
        DUE.is("9999 over 0", far.judge(0), 2);
        HandOverHorse twelve = Walls.plain(3);
        for (int i = 0; i < 11; i++) {
            twelve.over(1, 0, 1);
        }
        Walls.row(twelve, 0, 16, 5, 6, 6);
        DUE.is("11 LOOKS", twelve.judge(0), 3);
        twelve.over(2, 1, 1);
        DUE.is("the 12th LOOK, too", twelve.judge(0), 2);
    }

    private static void judgeTheFirst() {
        DUE.says("the first STROKE .. by which (with those ahead of it) a LOOK isn't held");
        HandOverHorse x = Walls.plain(4);
        x.over(0, 3, 1);
        x.over(1, 2, 1);
        Walls.row(x, 0, 16, 5, 5, 5, 5);
        DUE.is("both aren't held: the third spoils one first", x.judge(0), 2);
        x.put(0, 2, 4);
        DUE.is("the fourth spoils the other one", x.judge(0), 3);
        x.put(0, 3, 4);
        DUE.is("all are held", x.judge(0), 4);
        Walls.within(x, 1, 6, 9);
        x.put(0, 2, 9);
        DUE.is("the second isn't within, the third spoils", x.judge(0), 1);
        x.sheet(1, 16, 1);
        DUE.is("no number for the second", x.judge(1), 1);
        Walls.within(x, 0, 1, 9);
        DUE.is("the first isn't within", x.judge(1), 0);
    }
}
