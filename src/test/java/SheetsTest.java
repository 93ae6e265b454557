/** Promises 30 to 34: sheet, put, move, looks, judge. */
public final class SheetsTest {
    private static final Due DUE = new Due("SheetsTest");

    public static void main(String[] args) {
        sheet();
        put();
        move();
        looks();
        looksUpToFull();
        judge();
        DUE.end();
    }

    /** A wall that tells a number of a sheet: EARLY of STROKE 0 is 0 and LATE 9999; see numberIs. */
    private static HandOverHorse strokes(int n) {
        HandOverHorse x = new HandOverHorse();
        for (int i = 0; i < n; i++) {
            x.stroke(0, 0, 0);
        }
        return x;
    }

    /** Whether number 0 of a sheet is v (0 to 9999), by judge() of one STROKE. */
    private static void firstIs(String what, HandOverHorse x, int sheet, int v) {
        x.change(0, 4, v);
        x.change(0, 5, v);
        DUE.is(what, x.judge(sheet), x.count(0));
    }

    private static void sheet() {
        HandOverHorse x = strokes(1);
        DUE.is("sheet(4, 8, 1)", x.sheet(4, 8, 1), Due.BEYOND);
        DUE.is("sheet(-1, 8, 1)", x.sheet(-1, 8, 1), Due.BEYOND);
        DUE.is("sheet(0, 7, 1)", x.sheet(0, 7, 1), Due.BEYOND);
        DUE.is("sheet(0, 64, 1)", x.sheet(0, 64, 1), Due.BEYOND);
        DUE.is("sheet(0, -8, 1)", x.sheet(0, -8, 1), Due.BEYOND);
        DUE.is("sheet(0, 24, -1): bits ahead of n", x.sheet(0, 24, -1), Due.BEYOND);
        DUE.is("sheet(4, 8, -1): sheet ahead of n", x.sheet(4, 8, -1), Due.BEYOND);
        DUE.is("sheet(0, 8, -1)", x.sheet(0, 8, -1), Due.STATE);
        DUE.is("sheet(0, 8, least)", x.sheet(0, 8, Integer.MIN_VALUE), Due.STATE);
        DUE.is("sheet(0, 8, 41)", x.sheet(0, 8, 41), Due.BEYOND);
        DUE.is("sheet 0 is missing yet", x.put(0, 0, 0), Due.NONE);
        DUE.is("sheet(0, 8, 40)", x.sheet(0, 8, 40), 1);
        DUE.is("put(0, 39, 1)", x.put(0, 39, 1), 1);
        DUE.is("put(0, 40, 1)", x.put(0, 40, 1), Due.BEYOND);
        DUE.is("sheet(1, 16, 0)", x.sheet(1, 16, 0), 1);
        DUE.is("put(1, 0, 1)", x.put(1, 0, 1), Due.BEYOND);
        DUE.is("sheet(0, 0, -5)", x.sheet(0, 0, -5), 1);
        DUE.is("missing once more", x.put(0, 0, 1), Due.NONE);
        DUE.is("sheet(0, 0, 99)", x.sheet(0, 0, 99), 1);
        DUE.is("sheet(3, 32, 2)", x.sheet(3, 32, 2), 1);
        x.put(3, 0, 77);
        firstIs("77 stands", x, 3, 77);
        DUE.is("sheet(3, 32, 2) anew", x.sheet(3, 32, 2), 1);
        firstIs("all 0", x, 3, 0);
        x.put(3, 0, 78);
        DUE.is("a refused sheet()", x.sheet(3, 32, 41), Due.BEYOND);
        firstIs("changes nothing", x, 3, 78);
    }

    private static void put() {
        HandOverHorse x = strokes(1);
        DUE.is("put(4, 0, 0)", x.put(4, 0, 0), Due.BEYOND);
        DUE.is("put(-1, 0, 0)", x.put(-1, 0, 0), Due.BEYOND);
        DUE.is("put(0, -1, 0) of a missing one", x.put(0, -1, 0), Due.NONE);
        x.sheet(0, 8, 3);
        x.sheet(1, 16, 3);
        x.sheet(2, 32, 3);
        DUE.is("put(0, -1, 0)", x.put(0, -1, 0), Due.BEYOND);
        DUE.is("put(0, 3, 0)", x.put(0, 3, 0), Due.BEYOND);
        DUE.is("put(0, 0, 127)", x.put(0, 0, 127), 1);
        firstIs("127 in 8 bits", x, 0, 127);
        DUE.is("put(0, 0, 256 + 100)", x.put(0, 0, 356), 1);
        firstIs("the lowest 8 bits", x, 0, 100);
        x.put(0, 0, 128);
        x.change(0, 4, 0);
        x.change(0, 5, 9999);
        DUE.is("128 in 8 bits is -128", x.judge(0), 0);
        x.put(0, 0, -256 + 5);
        firstIs("-251 in 8 bits is 5", x, 0, 5);
        x.put(1, 0, 65536 * 3 + 9000);
        firstIs("the lowest 16 bits", x, 1, 9000);
        x.put(1, 0, 32768);
        x.change(0, 4, 0);
        x.change(0, 5, 9999);
        DUE.is("32768 in 16 bits is below 0", x.judge(1), 0);
        x.put(2, 0, 65536);
        DUE.is("65536 in 32 bits is beyond 9999", x.judge(2), 0);
        x.put(2, 0, 9999);
        firstIs("9999 in 32 bits", x, 2, 9999);
    }

    /** A sheet of 16 bits with n numbers 1, 2, .. */
    private static void fill(HandOverHorse x, int sheet, int n) {
        x.sheet(sheet, 16, n);
        for (int i = 0; i < n; i++) {
            x.put(sheet, i, i + 1);
        }
    }

    private static void rowIs(String what, HandOverHorse x, int sheet, int... row) {
        for (int i = 0; i < row.length; i++) {
            x.change(i, 4, row[i]);
            x.change(i, 5, row[i]);
        }
        DUE.is(what, x.judge(sheet), row.length);
    }

    private static void move() {
        HandOverHorse x = strokes(5);
        fill(x, 0, 5);
        DUE.is("move to no SHEET", x.move(0, 0, 4, 0, 1), Due.BEYOND);
        DUE.is("move from no SHEET", x.move(-1, 0, 0, 0, 1), Due.BEYOND);
        DUE.is("no SHEET ahead of a missing one", x.move(1, 0, 4, 0, 1), Due.BEYOND);
        DUE.is("move to a missing one", x.move(0, 0, 1, 0, 1), Due.NONE);
        DUE.is("move from a missing one", x.move(1, 0, 0, 0, 1), Due.NONE);
        DUE.is("missing ahead of n", x.move(1, -1, 0, 0, -1), Due.NONE);
        x.sheet(1, 8, 5);
        DUE.is("unlike bits", x.move(0, 0, 1, 0, 1), Due.KIND);
        DUE.is("unlike bits ahead of n", x.move(0, 0, 1, 0, -1), Due.KIND);
        fill(x, 1, 3);
        DUE.is("n below 0", x.move(0, 1, 1, 1, -1), Due.BEYOND);
        DUE.is("i below 0", x.move(0, -1, 1, 0, 1), Due.BEYOND);
        DUE.is("j below 0", x.move(0, 0, 1, -1, 1), Due.BEYOND);
        DUE.is("i and n", x.move(0, 4, 1, 0, 2), Due.BEYOND);
        DUE.is("j and n", x.move(0, 0, 1, 2, 2), Due.BEYOND);
        DUE.is("i and n that go round", x.move(0, Integer.MAX_VALUE, 1, 0, 1), Due.BEYOND);
        DUE.is("j and n that go round", x.move(0, 1, 1, 1, Integer.MAX_VALUE), Due.BEYOND);
        DUE.is("n 0, i behind the end", x.move(0, 6, 1, 0, 0), Due.BEYOND);
        DUE.is("n 0, j behind the end", x.move(0, 0, 1, 4, 0), Due.BEYOND);
        DUE.is("n 0, i below 0", x.move(0, -1, 1, 0, 0), Due.BEYOND);
        DUE.is("n 0 at the ends", x.move(0, 5, 1, 3, 0), 0);
        DUE.is("all of them", x.move(1, 0, 0, 0, 3), 3);
        rowIs("nothing has moved", x, 0, 1, 2, 3, 4, 5);
        DUE.is("to the same, upwards", x.move(0, 0, 0, 1, 4), 4);
        rowIs("as they all were, upwards", x, 0, 1, 1, 2, 3, 4);
        fill(x, 0, 5);
        DUE.is("to the same, downwards", x.move(0, 2, 0, 0, 3), 3);
        rowIs("as they all were, downwards", x, 0, 3, 4, 5, 4, 5);
        DUE.is("to another one", x.move(1, 1, 0, 3, 2), 2);
        rowIs("to another one", x, 0, 3, 4, 5, 2, 3);
    }

    private static void row(HandOverHorse x, int sheet, int... row) {
        x.sheet(sheet, 8, row.length);
        for (int i = 0; i < row.length; i++) {
            x.put(sheet, i, row[i]);
        }
    }

    private static void looks() {
        HandOverHorse x = strokes(3);
        DUE.is("looks(4)", x.looks(4), Due.BEYOND);
        DUE.is("looks(-1)", x.looks(-1), Due.BEYOND);
        DUE.is("looks(0) of a missing one", x.looks(0), Due.NONE);
        row(x, 0);
        DUE.is("looks of an empty one", x.looks(0), 0);
        row(x, 0, 1, 0, 50, 2, 1, 60, 2, 0);
        DUE.is("the last isn't whole", x.looks(0), 2);
        DUE.is("count(1)", x.count(1), 2);
        int[] parts = {2, 1, 60};
        for (int what = 0; what < 3; what++) {
            DUE.is("ofLook(1, " + what + ")", x.ofLook(1, what), parts[what]);
        }
        row(x, 0, 0, 1, 7);
        DUE.is("the last is whole", x.looks(0), 1);
        DUE.is("forget it", x.forget(), 2);
        row(x, 0, 1, 0, 50, 1, 1, 50, 1, 2, 50);
        DUE.is("one over itself", x.looks(0), 1);
        row(x, 0, 1, 0, 100, 1, 2, 50);
        DUE.is("SEEN too well", x.looks(0), 0);
        row(x, 0, 1, 3, 10);
        DUE.is("no such STROKE", x.looks(0), 0);
        DUE.is("count(1)", x.count(1), 3);
        DUE.is("no ERROR: told(1)", x.told(1), 2);
    }

    private static void looksUpToFull() {
        HandOverHorse x = strokes(2);
        int[] row = new int[40];
        for (int i = 0; i < 13; i++) {
            row[3 * i] = 1;
            row[3 * i + 2] = i + 1;
        }
        row(x, 2, row);
        DUE.is("up to 12", x.looks(2), 12);
        DUE.is("the last one's SEEN", x.ofLook(11, 2), 12);
        DUE.is("no FULL: told(4)", x.told(4), 0);
        DUE.is("none more", x.looks(2), 0);
    }

    private static void judge() {
        HandOverHorse x = strokes(3);
        DUE.is("judge(4)", x.judge(4), Due.BEYOND);
        DUE.is("judge(-1)", x.judge(-1), Due.BEYOND);
        DUE.is("judge(0) of a missing one", x.judge(0), Due.NONE);
        row(x, 0, 5, 6, 7, 8);
        DUE.is("all are so", x.judge(0), 3);
        row(x, 0, 5, 6);
        DUE.is("no number for the third", x.judge(0), 2);
        row(x, 0, 5, 6, 7);
        x.over(0, 2, 1);
        DUE.is("a LOOK that the third spoils", x.judge(0), 2);
        x.over(0, 1, 1);
        DUE.is("a LOOK that the second spoils", x.judge(0), 1);
        row(x, 0, 5, 5, 4);
        DUE.is("not in one YEAR", x.judge(0), 1);
        row(x, 0, 5, 4, 4);
        DUE.is("a YEAR later is enough", x.judge(0), 3);
        x.change(1, 4, 5);
        DUE.is("ahead of EARLY", x.judge(0), 1);
        x.change(1, 4, 4);
        x.change(1, 5, 4);
        DUE.is("EARLY and LATE themselves", x.judge(0), 3);
        x.change(1, 4, 0);
        x.change(1, 5, 3);
        DUE.is("behind LATE", x.judge(0), 1);
        row(x, 0);
        DUE.is("no number at all", x.judge(0), 0);
        HandOverHorse none = new HandOverHorse();
        row(none, 3);
        DUE.is("no STROKES", none.judge(3), 0);
    }
}
