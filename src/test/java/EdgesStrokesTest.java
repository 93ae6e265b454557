/** Sentences of Terms 1 and of promises 1 to 6 that name a boundary case, each by a test of its own. */
public final class EdgesStrokesTest {
    private static final Due DUE = new Due("EdgesStrokesTest");

    public static void main(String[] args) {
        newObject();
        newObjectsAreApart();
        atMostEightStrokes();
        placeIsFreeBehindRestore();
        kmIsTenTimesKindAndM();
        cellsOfSixTimesSix();
        handsUpTo99();
        yearsAndCrustAtFirst();
        yearsUpTo9999();
        crustUpTo99();
        fromMayBeBehindTo();
        earlyOfKinds();
        lateOfKinds();
        forgedIs5000AtLeast();
        earlyIsHeld();
        lateIsHeld();
        datesComeAheadOfHolding();
        stuffOfKinds();
        ofStrokeByStroke();
        ofStrokeByWhat();
        changeByWhat();
        changeTellsWhatWas();
        becomeTellsWhatWas();
        becomeLeavesTheRest();
        asByKind();
        DUE.end();
    }

    private static void newObject() {
        DUE.says("All as at first; no STROKES, no LOOKS.");
        HandOverHorse x = new HandOverHorse();
        int[] counts = {0, 0, 0, 0, 0, 1};
        for (int what = 0; what < 6; what++) {
            DUE.is("count(" + what + ")", x.count(what), counts[what]);
        }
        for (int k = 1; k <= 5; k++) {
            DUE.is("told(" + k + ")", x.told(k), 0);
        }
        DUE.is("ofStroke(0, 0)", x.ofStroke(0, 0), Due.BEYOND);
        DUE.is("ofLook(0, 0)", x.ofLook(0, 0), Due.BEYOND);
        DUE.is("forget()", x.forget(), Due.STATE);
        DUE.is("text(0) of an empty tape", x.text(0), -10);
        DUE.is("DATES without a TEXT", x.law(0, 9, 9, 9, 9), 0);
        DUE.is("DOUBTS without a TEXT", x.law(1, 9, 8, 7, 6), 9);
        DUE.is("check() of nothing", x.check(), 0);
        DUE.is("trace(0)", x.trace(0), Due.NONE);
        for (int s = 0; s < 4; s++) {
            DUE.is("sheet " + s + " is missing", x.looks(s), Due.NONE);
        }
        DUE.is("restore()", x.restore(), Due.NONE);
        DUE.is("seed(0)", x.seed(0), 1);
        DUE.is("image()", x.image(), 1);
    }

    private static void newObjectsAreApart() {
        DUE.says("All as at first; no STROKES, no LOOKS.");
        HandOverHorse used = Walls.chain(8);
        Due.read(used, 0, "9");
        Due.feed(used, "9");
        used.sheet(0, 8, 3);
        used.tell(1);
        used.seed(5);
        used.image();
        used.voice(0, 0, 0);
        used.as(0, 1);
        newObject();
        DUE.says("two objects");
        DUE.is("count(0) of the one", used.count(0), 8);
        DUE.is("law of the one", used.law(0, 0, 0, 0, 0), 9);
    }

    private static void atMostEightStrokes() {
        DUE.says("STROKES 0, 1, .. (at most 8); its number. BEYOND. FULL.");
        HandOverHorse x = new HandOverHorse();
        for (int i = 0; i < 8; i++) {
            DUE.is("stroke " + i, x.stroke(0, 0, 0), i);
        }
        DUE.is("a ninth", x.stroke(0, 0, 0), Due.FULL);
        DUE.is("a tenth", x.stroke(69, 35, 99), Due.FULL);
        DUE.is("count(0)", x.count(0), 8);
        DUE.is("the last", x.ofStroke(7, 0), 0);
        DUE.is("no ninth", x.ofStroke(8, 0), Due.BEYOND);
        DUE.is("km BEYOND ahead of FULL", x.stroke(70, 0, 0), Due.BEYOND);
        DUE.is("cell BEYOND ahead of FULL", x.stroke(0, 36, 0), Due.BEYOND);
        DUE.is("hand BEYOND ahead of FULL", x.stroke(0, 0, 100), Due.BEYOND);
        DUE.is("told(4)", x.told(4), 2);
        DUE.is("told(1)", x.told(1), 4);
    }

    private static void placeIsFreeBehindRestore() {
        DUE.says("STROKES 0, 1, .. (at most 8), behind a restore() to 7");
        HandOverHorse x = Walls.plain(7);
        x.image();
        DUE.is("the eighth", x.stroke(69, 3, 4), 7);
        x.change(7, 4, 77);
        x.change(7, 5, 78);
        x.change(7, 6, 79);
        DUE.is("restore()", x.restore(), 7);
        DUE.is("the eighth is gone", x.ofStroke(7, 0), Due.BEYOND);
        DUE.is("another eighth", x.stroke(12, 5, 6), 7);
        int[] parts = {1, 2, 5, 6, 0, 9999, 0};
        for (int what = 0; what < 7; what++) {
            DUE.is("as at first: ofStroke(7, " + what + ")", x.ofStroke(7, what), parts[what]);
        }
        DUE.is("a ninth", x.stroke(0, 0, 0), Due.FULL);
    }

    private static void kmIsTenTimesKindAndM() {
        DUE.says("km: 10 times the KIND, and m; KINDS 0 to 6, m 0 to 9");
        for (int km = 0; km < 70; km++) {
            HandOverHorse x = new HandOverHorse();
            DUE.is("stroke(" + km + ", 0, 0)", x.stroke(km, 0, 0), 0);
            DUE.is("KIND of " + km, x.ofStroke(0, 0), km / 10);
            DUE.is("m of " + km, x.ofStroke(0, 1), km % 10);
            HandOverHorse y = Walls.plain(1);
            DUE.is("become(0, " + km + ")", y.become(0, km), 0);
            DUE.is("KIND of " + km, y.ofStroke(0, 0), km / 10);
            DUE.is("m of " + km, y.ofStroke(0, 1), km % 10);
        }
        HandOverHorse x = Walls.plain(1);
        for (int km : new int[] {-1, -10, 70, 79, 100, Integer.MIN_VALUE, Integer.MAX_VALUE}) {
            DUE.is("stroke(" + km + ", 0, 0)", x.stroke(km, 0, 0), Due.BEYOND);
            DUE.is("become(0, " + km + ")", x.become(0, km), Due.BEYOND);
        }
        DUE.is("count(0)", x.count(0), 1);
    }

    private static void cellsOfSixTimesSix() {
        DUE.says("CELLS of 6 rows and 6 columns (0 to 35)");
        HandOverHorse x = Walls.plain(1);
        for (int cell : new int[] {-1, 36, Integer.MIN_VALUE, Integer.MAX_VALUE}) {
            DUE.is("stroke(0, " + cell + ", 0)", x.stroke(0, cell, 0), Due.BEYOND);
            DUE.is("change(0, 2, " + cell + ")", x.change(0, 2, cell), Due.BEYOND);
            DUE.is("lamp(" + cell + ", 0)", x.lamp(cell, 0), Due.BEYOND);
        }
        DUE.is("stroke(0, 35, 0)", x.stroke(0, 35, 0), 1);
        DUE.is("its CELL", x.ofStroke(1, 2), 35);
        DUE.is("stroke(0, 0, 0)", x.stroke(0, 0, 0), 2);
        DUE.is("its CELL", x.ofStroke(2, 2), 0);
        DUE.is("change(0, 2, 35)", x.change(0, 2, 35), 0);
        DUE.is("change(0, 2, 0)", x.change(0, 2, 0), 35);
        DUE.is("lamp(35, 0)", x.lamp(35, 0), 2);
        DUE.is("lamp(0, 0)", x.lamp(0, 0), 5);
    }

    private static void handsUpTo99() {
        DUE.says("a HAND (how high it is, 0 to 99)");
        HandOverHorse x = Walls.plain(1);
        for (int hand : new int[] {-1, 100, Integer.MIN_VALUE, Integer.MAX_VALUE}) {
            DUE.is("stroke(0, 0, " + hand + ")", x.stroke(0, 0, hand), Due.BEYOND);
            DUE.is("change(0, 3, " + hand + ")", x.change(0, 3, hand), Due.BEYOND);
            DUE.is("hand(" + hand + ")", x.hand(hand), Due.BEYOND);
        }
        DUE.is("stroke(0, 0, 99)", x.stroke(0, 0, 99), 1);
        DUE.is("its HAND", x.ofStroke(1, 3), 99);
        DUE.is("change(0, 3, 99)", x.change(0, 3, 99), 0);
        DUE.is("hand(99)", x.hand(99), 3);
        DUE.is("change(0, 3, 0)", x.change(0, 3, 0), 99);
        DUE.is("hand(0)", x.hand(0), 1);
    }

    private static void yearsAndCrustAtFirst() {
        DUE.says("FROM a YEAR TO a YEAR (0 and 9999 at first), with a CRUST (0 at first)");
        HandOverHorse x = new HandOverHorse();
        for (int i = 0; i < 7; i++) {
            x.stroke(i * 10, 0, 0);
            DUE.is("FROM of KIND " + i, x.ofStroke(i, 4), 0);
            DUE.is("TO of KIND " + i, x.ofStroke(i, 5), 9999);
            DUE.is("CRUST of KIND " + i, x.ofStroke(i, 6), 0);
            x.change(i, 4, 5);
            x.change(i, 5, 6);
            x.change(i, 6, 7);
        }
    }

    private static void partWithin(int what, int first, int most) {
        HandOverHorse x = Walls.plain(1);
        DUE.is("change(0, " + what + ", " + most + ")", x.change(0, what, most), first);
        DUE.is("it stands", x.ofStroke(0, what), most);
        for (int v : new int[] {-1, most + 1, Integer.MIN_VALUE, Integer.MAX_VALUE}) {
            DUE.is("change(0, " + what + ", " + v + ")", x.change(0, what, v), Due.BEYOND);
        }
        DUE.is("it stands yet", x.ofStroke(0, what), most);
        DUE.is("change(0, " + what + ", 0)", x.change(0, what, 0), most);
        DUE.is("it stands", x.ofStroke(0, what), 0);
    }

    private static void yearsUpTo9999() {
        DUE.says("told FROM a YEAR TO a YEAR (0 to 9999 both)");
        partWithin(4, 0, 9999);
        partWithin(5, 9999, 9999);
    }

    private static void crustUpTo99() {
        DUE.says("with a CRUST (0 to 99)");
        partWithin(6, 0, 99);
    }

    private static void fromMayBeBehindTo() {
        DUE.says("FROM (4), TO (5) becomes v: nothing asks that TO is behind FROM");
        HandOverHorse x = Walls.plain(1);
        DUE.is("change(0, 5, 0)", x.change(0, 5, 0), 9999);
        DUE.is("change(0, 4, 9999)", x.change(0, 4, 9999), 0);
        DUE.is("EARLY", x.ofStroke(0, 7), 9999);
        DUE.is("LATE", x.ofStroke(0, 8), 0);
    }

    /** EARLY (what 7) or LATE (8) of a KIND with m, so told. */
    private static void yearIs(int what, int km, int told, int crust, int want) {
        HandOverHorse x = Walls.of(km);
        x.change(0, what - 3, told);
        x.change(0, 6, crust);
        DUE.is((what == 7 ? "EARLY" : "LATE") + " of km " + km + " told " + told + ", CRUST " + crust,
                x.ofStroke(0, what), want);
    }

    private static void earlyOfKinds() {
        DUE.says("EARLY of a STROKE");
        int[] least = {6000, 6000, 6000, 6000, 6050, 6000, 6000};
        int[] most = {6000, 6009, 6000, 5910, 6059, 6099, 5910};
        for (int kind = 0; kind < 7; kind++) {
            yearIs(7, kind * 10, 6000, 0, least[kind]);
            yearIs(7, kind * 10 + 9, 6000, 99, most[kind]);
        }
    }

    private static void lateOfKinds() {
        DUE.says("LATE");
        int[] least = {6000, 6000, 6000, 6000, 6000, 6000, 9999};
        int[] most = {6000, 6000, 5901, 6000, 5991, 5802, 9999};
        for (int kind = 0; kind < 7; kind++) {
            yearIs(8, kind * 10, 6000, 0, least[kind]);
            yearIs(8, kind * 10 + 9, 6000, 99, most[kind]);
        }
        yearIs(8, 60, 0, 0, 9999);
    }

    private static void forgedIs5000AtLeast() {
        DUE.says("FORGED: as SCRATCH, but 5000 at least");
        yearIs(7, 60, 4999, 0, 5000);
        yearIs(7, 60, 5000, 0, 5000);
        yearIs(7, 60, 5001, 0, 5001);
        yearIs(7, 69, 5089, 0, 5000);
        yearIs(7, 69, 5090, 0, 5000);
        yearIs(7, 69, 5091, 0, 5001);
        yearIs(7, 60, 0, 0, 5000);
        yearIs(7, 60, 9999, 0, 9999);
        DUE.says("SCRATCH: as STROKE, less 10 times m (nothing at least)");
        yearIs(7, 30, 4999, 0, 4999);
        yearIs(7, 39, 5089, 0, 4999);
    }

    private static void earlyIsHeld() {
        DUE.says("EARLY: then they are held within 0 to 9999");
        yearIs(7, 39, 89, 0, 0);
        yearIs(7, 39, 90, 0, 0);
        yearIs(7, 39, 91, 0, 1);
        yearIs(7, 39, 0, 0, 0);
        yearIs(7, 19, 9989, 0, 9998);
        yearIs(7, 19, 9990, 0, 9999);
        yearIs(7, 19, 9991, 0, 9999);
        yearIs(7, 49, 9939, 0, 9998);
        yearIs(7, 49, 9940, 0, 9999);
        yearIs(7, 49, 9999, 0, 9999);
        yearIs(7, 50, 9899, 99, 9998);
        yearIs(7, 50, 9900, 99, 9999);
        yearIs(7, 50, 9901, 99, 9999);
    }

    private static void lateIsHeld() {
        DUE.says("LATE: then they are held within 0 to 9999");
        yearIs(8, 20, 98, 99, 0);
        yearIs(8, 20, 99, 99, 0);
        yearIs(8, 20, 100, 99, 1);
        yearIs(8, 50, 197, 99, 0);
        yearIs(8, 50, 198, 99, 0);
        yearIs(8, 50, 199, 99, 1);
        yearIs(8, 49, 8, 0, 0);
        yearIs(8, 49, 9, 0, 0);
        yearIs(8, 49, 10, 0, 1);
        yearIs(8, 0, 9999, 0, 9999);
        yearIs(8, 0, 0, 0, 0);
    }

    private static void datedIs(int what, int km, int told, int crust, String dates, int want) {
        HandOverHorse x = Walls.of(km);
        x.change(0, what - 3, told);
        x.change(0, 6, crust);
        DUE.is("text(0) of " + dates, Due.read(x, 0, dates), 1);
        DUE.is((what == 7 ? "EARLY" : "LATE") + " of km " + km + " told " + told + ", CRUST " + crust + ", DATES " + dates,
                x.ofStroke(0, what), want);
    }

    private static void datesComeAheadOfHolding() {
        DUE.says("To both comes what DATES gives; then they are held within 0 to 9999");
        for (int what = 7; what <= 8; what++) {
            datedIs(what, 0, 9000, 0, "999", 9999);
            datedIs(what, 0, 8999, 0, "999", 9998);
            datedIs(what, 0, 9001, 0, "999", 9999);
            datedIs(what, 0, 999, 0, "0-999", 0);
            datedIs(what, 0, 998, 0, "0-999", 0);
            datedIs(what, 0, 1000, 0, "0-999", 1);
            datedIs(what, 0, 5000, 0, "9999", 5999);
            datedIs(what, 0, 5000, 0, "0-9999", 4001);
        }
        datedIs(7, 39, 0, 0, "100", 10);
        datedIs(7, 39, 50, 0, "40", 0);
        datedIs(7, 19, 9999, 0, "0-20", 9988);
        datedIs(7, 50, 9999, 99, "0-99", 9999);
        datedIs(8, 50, 0, 99, "200", 2);
        datedIs(8, 20, 0, 99, "98", 0);
        datedIs(8, 49, 0, 0, "10", 1);
        datedIs(7, 60, 0, 0, "0-999", 4001);
        datedIs(7, 60, 0, 0, "0-9999", 4001);
        datedIs(8, 60, 0, 0, "0-1", 9998);
        datedIs(8, 60, 0, 0, "1", 9999);
        DUE.says("DATES, NAMES c CRUST, m m, k KIND, h HAND");
        HandOverHorse x = new HandOverHorse();
        x.stroke(47, 0, 63);
        x.change(0, 6, 21);
        int[] parts = {21, 7, 4, 63};
        for (int i = 0; i < 4; i++) {
            DUE.is("text(0)", Due.read(x, 0, "cmkh".substring(i, i + 1)), 1);
            DUE.is("EARLY with the NAME " + i, x.ofStroke(0, 7), 57 + parts[i]);
        }
    }

    private static void stuffOfKinds() {
        DUE.says("STUFF of a STROKE");
        int[] stuffs = {0, 1, 2, 3, 1, 2, 3};
        for (int kind = 0; kind < 7; kind++) {
            DUE.is("STUFF of KIND " + kind, Walls.of(kind * 10).ofStroke(0, 9), stuffs[kind]);
            DUE.is("STUFF of KIND " + kind + " with m 9", Walls.of(kind * 10 + 9).ofStroke(0, 9), stuffs[kind]);
        }
    }

    private static void ofStrokeByStroke() {
        DUE.says("Of a STROKE; BEYOND");
        for (int n = 0; n <= 8; n++) {
            HandOverHorse x = Walls.plain(n);
            for (int what = 0; what < 10; what++) {
                DUE.is("ofStroke(-1, " + what + ") of " + n, x.ofStroke(-1, what), Due.BEYOND);
                DUE.is("ofStroke(" + n + ", " + what + ") of " + n, x.ofStroke(n, what), Due.BEYOND);
            }
            if (n > 0) {
                DUE.is("ofStroke(0, 5) of " + n, x.ofStroke(0, 5), 9999);
                DUE.is("the last of " + n, x.ofStroke(n - 1, 5), 9999);
            }
            DUE.is("ofStroke(least, 0)", x.ofStroke(Integer.MIN_VALUE, 0), Due.BEYOND);
            DUE.is("ofStroke(greatest, 0)", x.ofStroke(Integer.MAX_VALUE, 0), Due.BEYOND);
        }
    }

    private static void ofStrokeByWhat() {
        DUE.says("0 KIND, 1 m, 2 CELL, 3 HAND, 4 FROM, 5 TO, 6 CRUST, 7 EARLY, 8 LATE, 9 STUFF. BEYOND.");
        HandOverHorse x = new HandOverHorse();
        x.stroke(58, 22, 63);
        x.change(0, 4, 100);
        x.change(0, 5, 800);
        x.change(0, 6, 31);
        int[] parts = {5, 8, 22, 63, 100, 800, 31, 131, 738, 2};
        for (int what = 0; what < 10; what++) {
            DUE.is("ofStroke(0, " + what + ")", x.ofStroke(0, what), parts[what]);
        }
        for (int what : new int[] {-1, 10, Integer.MIN_VALUE, Integer.MAX_VALUE}) {
            DUE.is("ofStroke(0, " + what + ")", x.ofStroke(0, what), Due.BEYOND);
        }
    }

    private static void changeByWhat() {
        DUE.says("BEYOND: also another what");
        HandOverHorse x = Walls.plain(1);
        for (int what : new int[] {-1, 0, 1, 7, 8, 9, 10, Integer.MIN_VALUE, Integer.MAX_VALUE}) {
            for (int v = -2; v <= 1; v++) {
                DUE.is("change(0, " + what + ", " + v + ")", x.change(0, what, v), Due.BEYOND);
            }
        }
        for (int what = 2; what <= 6; what++) {
            DUE.is("change(0, " + what + ", 1)", x.change(0, what, 1), what == 5 ? 9999 : 0);
            DUE.is("change(-1, " + what + ", 1)", x.change(-1, what, 1), Due.BEYOND);
            DUE.is("change(1, " + what + ", 1)", x.change(1, what, 1), Due.BEYOND);
            DUE.is("without STROKES", new HandOverHorse().change(0, what, 1), Due.BEYOND);
        }
        DUE.is("the eighth of 8", Walls.plain(8).change(7, 2, 1), 0);
        DUE.is("a ninth of 8", Walls.plain(8).change(8, 2, 1), Due.BEYOND);
    }

    private static void changeTellsWhatWas() {
        DUE.says("CELL (what 2), HAND (3), FROM (4), TO (5), CRUST (6) of a STROKE becomes v: what it was");
        HandOverHorse x = new HandOverHorse();
        x.stroke(11, 12, 13);
        x.stroke(22, 23, 24);
        int[] were = {1, 1, 12, 13, 0, 9999, 0};
        for (int what = 2; what <= 6; what++) {
            DUE.is("change(0, " + what + ", 30)", x.change(0, what, 30), were[what]);
            DUE.is("once more", x.change(0, what, 31), 30);
            were[what] = 31;
            for (int other = 0; other < 7; other++) {
                DUE.is("ofStroke(0, " + other + ")", x.ofStroke(0, other), were[other]);
            }
        }
        int[] others = {2, 2, 23, 24, 0, 9999, 0};
        for (int what = 0; what < 7; what++) {
            DUE.is("ofStroke(1, " + what + ")", x.ofStroke(1, what), others[what]);
        }
    }

    private static void becomeTellsWhatWas() {
        DUE.says("A STROKE becomes one of a KIND, with m (km): the KIND that it was. BEYOND.");
        HandOverHorse x = Walls.of(69, 5);
        int was = 6;
        for (int kind = 0; kind < 7; kind++) {
            DUE.is("become(0, " + (kind * 10 + kind) + ")", x.become(0, kind * 11), was);
            DUE.is("the same once more", x.become(0, kind * 11), kind);
            was = kind;
        }
        DUE.is("become(1, 9)", x.become(1, 9), 0);
        DUE.is("become(2, 9)", x.become(2, 9), Due.BEYOND);
        DUE.is("become(-1, 9)", x.become(-1, 9), Due.BEYOND);
        DUE.is("without STROKES", new HandOverHorse().become(0, 0), Due.BEYOND);
        DUE.is("the eighth of 8", Walls.plain(8).become(7, 10), 0);
        DUE.is("a ninth of 8", Walls.plain(8).become(8, 10), Due.BEYOND);
    }

    private static void becomeLeavesTheRest() {
        DUE.says("A STROKE becomes one of a KIND, with m (nothing else is told to change)");
        HandOverHorse x = Walls.plain(3);
        int[] parts = {0, 0, 17, 18, 19, 20, 21};
        for (int what = 2; what < 7; what++) {
            x.change(1, what, parts[what]);
        }
        x.over(1, 0, 9);
        for (int kind = 6; kind >= 0; kind--) {
            x.become(1, kind * 10 + 9 - kind);
            parts[0] = kind;
            parts[1] = 9 - kind;
            for (int what = 0; what < 7; what++) {
                DUE.is("KIND " + kind + ": ofStroke(1, " + what + ")", x.ofStroke(1, what), parts[what]);
                DUE.is("the one ahead", x.ofStroke(0, what), what == 5 ? 9999 : 0);
                DUE.is("the one behind", x.ofStroke(2, what), what == 5 ? 9999 : 0);
            }
        }
        DUE.is("the LOOK", x.ofLook(0, 0), 1);
        DUE.is("its number", x.voice(1, 0, 0), 1);
    }

    private static void asByKind() {
        DUE.says("A STROKE as one of a KIND: m. BEYOND. KIND: it isn't of that KIND, nor of one under it.");
        String[] above = {"0", "01", "02", "03", "014", "025", "036"};
        for (int kind = 0; kind < 7; kind++) {
            HandOverHorse x = Walls.of(kind * 10 + 9 - kind);
            for (int asKind = 0; asKind < 7; asKind++) {
                int want = above[kind].indexOf('0' + asKind) >= 0 ? 9 - kind : Due.KIND;
                DUE.is("KIND " + kind + ": as(0, " + asKind + ")", x.as(0, asKind), want);
            }
            DUE.is("as(0, -1)", x.as(0, -1), Due.BEYOND);
            DUE.is("as(0, 7)", x.as(0, 7), Due.BEYOND);
            DUE.is("as(-1, 0)", x.as(-1, 0), Due.BEYOND);
            DUE.is("as(1, 0)", x.as(1, 0), Due.BEYOND);
            DUE.is("told(5)", x.told(5), 7 - above[kind].length());
            DUE.is("told(1)", x.told(1), 4);
        }
        DUE.is("without STROKES", new HandOverHorse().as(0, 0), Due.BEYOND);
        DUE.is("behind become()", changed().as(0, 4), Due.KIND);
    }

    private static HandOverHorse changed() {
        HandOverHorse x = Walls.of(40);
        x.become(0, 10);
        return x;
    }
}
