/** Sentences on IMAGES and what is told (promises 35 to 40) that name a boundary case, each by a test of its own. */
public final class EdgesImagesTest {
    private static final Due DUE = new Due("EdgesImagesTest");
    private static final int LEAST = Integer.MIN_VALUE;
    private static final int GREATEST = Integer.MAX_VALUE;

    public static void main(String[] args) {
        howOften();
        restoreWithoutImage();
        imageOfNothing();
        imageOfTheFullest();
        imageStays();
        imageInPlaceOfOneAhead();
        kindsComeBack();
        turnedLooksComeBack();
        textsComeBack();
        tapeComesBack();
        waitingComesBack();
        zComesBack();
        sheetsStay();
        traceStays();
        toldStays();
        tellUpToTwenty();
        tellTakesAnyNumber();
        noneWaitBehindCheck();
        checkWithoutStrokes();
        checkOfAnOrder();
        checkNoStroke();
        checkThereAhead();
        checkLooks();
        checkLacksOrTooMany();
        checkOfTwenty();
        countByWhat();
        countOfTheFullest();
        countOfZIsAnyNumber();
        toldByK();
        toldOfAnotherK();
        toldCountsEach();
        callsUpTo512();
        DUE.end();
    }

    private static void howOften() {
        DUE.says("is kept as an IMAGE: how often that was done");
        HandOverHorse x = new HandOverHorse();
        for (int i = 1; i <= 100; i++) {
            DUE.is("image()", x.image(), i);
        }
        DUE.is("restore()", x.restore(), 0);
        DUE.is("image() behind restore()", x.image(), 101);
    }

    private static void restoreWithoutImage() {
        DUE.says("NONE: there is none");
        HandOverHorse x = Walls.plain(3);
        DUE.is("restore()", x.restore(), Due.NONE);
        DUE.is("count(0)", x.count(0), 3);
        DUE.is("told(2)", x.told(2), 1);
        DUE.is("image()", x.image(), 1);
        DUE.is("restore()", x.restore(), 3);
    }

    private static void imageOfNothing() {
        DUE.says("All is as the IMAGE has it: how many STROKES (none)");
        HandOverHorse x = new HandOverHorse();
        DUE.is("image()", x.image(), 1);
        fill(x);
        DUE.is("restore()", x.restore(), 0);
        int[] counts = {0, 0, 0, 0, 8, 1};
        for (int what = 0; what < 6; what++) {
            DUE.is("count(" + what + ")", x.count(what), counts[what]);
        }
        DUE.is("forget()", x.forget(), Due.STATE);
        DUE.is("ofStroke(0, 0)", x.ofStroke(0, 0), Due.BEYOND);
        DUE.is("ofLook(0, 0)", x.ofLook(0, 0), Due.BEYOND);
        DUE.is("law(0): no TEXT once more", x.law(0, 50, 50, 50, 50), 0);
        DUE.is("law(1): no TEXT once more", x.law(1, 50, 60, 70, 80), 50);
        DUE.is("text(0): THE TAPE is empty", x.text(0), -10);
        DUE.is("check(): none wait", x.check(), 0);
        DUE.is("orders()", x.orders(), 1);
    }

    /** As much of all as there may be. */
    private static void fill(HandOverHorse x) {
        for (int i = 0; i < 8; i++) {
            x.stroke(i < 7 ? 10 * i + 9 - i : 57, 35 - i, 90 + i);
            x.change(i, 4, 100 + i);
            x.change(i, 5, 9000 + i);
            x.change(i, 6, 10 + i);
        }
        for (int i = 0; i < 12; i++) {
            x.over(i < 7 ? i + 1 : 7, i < 7 ? i : i - 7, 20 + i);
        }
        Due.read(x, 0, "c+m+k+h");
        Due.read(x, 1, "w+k+c");
        Due.feed(x, "1+2+3+4+5+6+7+8+9+1+2+3+4+5+6+7+8+9+1+2+3+4+5+6+10");
        for (int i = 0; i < 20; i++) {
            x.tell(i);
        }
        x.seed(-123456789);
        x.voice(5, 3, 1);
    }

    private static void isFull(HandOverHorse x) {
        for (int i = 0; i < 8; i++) {
            int[] parts = {i < 7 ? i : 5, i < 7 ? 9 - i : 7, 35 - i, 90 + i, 100 + i, 9000 + i, 10 + i};
            for (int what = 0; what < 7; what++) {
                DUE.is("ofStroke(" + i + ", " + what + ")", x.ofStroke(i, what), parts[what]);
            }
            DUE.is("number of " + i, x.voice(i, 0, 0), i == 2 || i == 5 || i == 7 ? 3 * i : i);
        }
        DUE.is("ofStroke(8, 0)", x.ofStroke(8, 0), Due.BEYOND);
        for (int i = 0; i < 12; i++) {
            DUE.is("ofLook(" + i + ", 0)", x.ofLook(i, 0), i < 7 ? i + 1 : 7);
            DUE.is("ofLook(" + i + ", 1)", x.ofLook(i, 1), i < 7 ? i : i - 7);
            DUE.is("ofLook(" + i + ", 2)", x.ofLook(i, 2), 20 + i);
        }
        DUE.is("law(0)", x.law(0, 1, 2, 3, 4), 10);
        DUE.is("law(1)", x.law(1, 1, 2, 3, 4), 6);
        DUE.is("count(2)", x.count(2), 50);
        DUE.is("count(3)", x.count(3), 20);
        DUE.is("count(5)", x.count(5), -123456789);
        DUE.is("feed() on a full tape", x.feed(0, 1), Due.FULL);
        DUE.is("text(0)", x.text(0), 1);
        DUE.is("law(0) of THE TAPE", x.law(0, 0, 0, 0, 0), 121);
        DUE.is("tell() with 20 that wait", x.tell(0), Due.FULL);
        DUE.is("check(): the ninth is too many", x.check(), 9);
        DUE.is("stroke() with 8", x.stroke(0, 0, 0), Due.FULL);
        DUE.is("over() with 12", x.over(0, 1, 1), Due.FULL);
    }

    private static void imageOfTheFullest() {
        DUE.says("All is kept as an IMAGE; All is as the IMAGE has it (the most of all)");
        HandOverHorse x = new HandOverHorse();
        fill(x);
        DUE.is("image()", x.image(), 1);
        isFull(x);
        spoil(x);
        DUE.is("restore()", x.restore(), 8);
        isFull(x);
    }

    private static void spoil(HandOverHorse x) {
        for (int i = 0; i < 8; i++) {
            x.become(i, 0);
            for (int what = 2; what <= 6; what++) {
                x.change(i, what, 0);
            }
        }
        for (int i = 0; i < 12; i++) {
            x.see(i, 1);
        }
        x.again();
        x.forget();
        x.over(0, 1, 1);
        Due.read(x, 0, "0");
        Due.read(x, 1, "0");
        x.tell(7);
        x.seed(0);
    }

    private static void imageStays() {
        DUE.says("All is as the IMAGE has it, which stays");
        HandOverHorse x = new HandOverHorse();
        x.stroke(11, 2, 3);
        x.stroke(44, 5, 6);
        x.over(0, 1, 7);
        x.image();
        for (int i = 0; i < 3; i++) {
            x.become(0, 69);
            x.change(1, 3, 99);
            x.stroke(0, 0, 0);
            x.see(0, 99);
            x.over(1, 0, 1);
            Due.read(x, 0, "9");
            DUE.is("restore() " + i, x.restore(), 2);
            DUE.is("KIND", x.ofStroke(0, 0), 1);
            DUE.is("m", x.ofStroke(0, 1), 1);
            DUE.is("HAND", x.ofStroke(1, 3), 6);
            DUE.is("SEEN", x.ofLook(0, 2), 7);
            DUE.is("count(1)", x.count(1), 1);
            DUE.is("law(0)", x.law(0, 0, 0, 0, 0), 0);
        }
        DUE.is("restore() twice", x.restore(), 2);
    }

    private static void imageInPlaceOfOneAhead() {
        DUE.says("is kept as an IMAGE, in place of one ahead");
        HandOverHorse x = Walls.chain(8);
        Due.read(x, 0, "9");
        x.image();
        HandOverHorse fewer = x;
        for (int i = 0; i < 7; i++) {
            fewer.forget();
        }
        fewer.become(7, 33);
        DUE.is("image()", fewer.image(), 2);
        fewer.become(7, 22);
        fewer.over(0, 1, 5);
        DUE.is("restore()", fewer.restore(), 8);
        DUE.is("KIND of the second IMAGE", fewer.ofStroke(7, 0), 3);
        DUE.is("LOOKS of the second IMAGE", fewer.count(1), 0);
    }

    private static void kindsComeBack() {
        DUE.says("All is as the IMAGE has it (KINDS)");
        for (int kind = 0; kind < 7; kind++) {
            for (int other = 0; other < 7; other++) {
                HandOverHorse x = Walls.of(kind * 10 + 3);
                x.change(0, 6, 9);
                int early = x.ofStroke(0, 7);
                int late = x.ofStroke(0, 8);
                int stuff = x.ofStroke(0, 9);
                x.image();
                x.become(0, other * 10 + 4);
                DUE.is("restore()", x.restore(), 1);
                DUE.is("KIND " + kind + " from " + other, x.ofStroke(0, 0), kind);
                DUE.is("m", x.ofStroke(0, 1), 3);
                DUE.is("EARLY", x.ofStroke(0, 7), early);
                DUE.is("LATE", x.ofStroke(0, 8), late);
                DUE.is("STUFF", x.ofStroke(0, 9), stuff);
            }
        }
    }

    private static void turnedLooksComeBack() {
        DUE.says("All is as the IMAGE has it (LOOKS that were turned round)");
        HandOverHorse x = Walls.plain(3);
        for (int i = 0; i < 12; i++) {
            x.over(i % 3, (i + 1) % 3, 1);
        }
        x.image();
        DUE.that("again() turns some round", x.again() > 6);
        x.restore();
        for (int i = 0; i < 12; i++) {
            DUE.is("the one OVER of " + i, x.ofLook(i, 0), i % 3);
            DUE.is("the other one of " + i, x.ofLook(i, 1), (i + 1) % 3);
        }
    }

    private static void textsComeBack() {
        DUE.says("All is as the IMAGE has it (TEXTS, also none)");
        HandOverHorse x = new HandOverHorse();
        x.image();
        Due.read(x, 0, "7");
        Due.read(x, 1, "8");
        x.restore();
        DUE.is("DATES: none", x.law(0, 5, 0, 0, 0), 0);
        DUE.is("DOUBTS: none", x.law(1, 5, 0, 0, 0), 5);
        Due.read(x, 0, "1+2+3+4+c");
        x.image();
        Due.read(x, 0, "7");
        Due.read(x, 1, "8");
        x.restore();
        DUE.is("DATES as in the IMAGE", x.law(0, 5, 0, 0, 0), 15);
        DUE.is("DOUBTS: none", x.law(1, 5, 0, 0, 0), 5);
    }

    private static void tapeComesBack() {
        DUE.says("All is as the IMAGE has it (THE TAPE, also an empty one)");
        HandOverHorse x = new HandOverHorse();
        x.image();
        Due.feed(x, "12");
        DUE.is("restore()", x.restore(), 0);
        DUE.is("empty", x.count(2), 0);
        Due.feed(x, "2+3");
        x.image();
        x.text(0);
        Due.feed(x, "4*9999");
        x.restore();
        DUE.is("count(2)", x.count(2), 3);
        DUE.is("text(0)", x.text(0), 1);
        DUE.is("law(0)", x.law(0, 0, 0, 0, 0), 5);
    }

    private static void waitingComesBack() {
        DUE.says("All is as the IMAGE has it (numbers that wait, also none)");
        HandOverHorse x = Walls.chain(3);
        x.image();
        x.tell(2);
        x.restore();
        DUE.is("none wait", x.count(3), 0);
        x.tell(0);
        x.tell(1);
        x.image();
        x.check();
        x.tell(2);
        x.tell(2);
        x.tell(2);
        x.restore();
        DUE.is("two wait", x.count(3), 2);
        DUE.is("the third", x.tell(2), 3);
        DUE.is("check()", x.check(), 0);
    }

    private static void zComesBack() {
        DUE.says("All is as the IMAGE has it (z)");
        HandOverHorse x = Walls.chain(2);
        x.seed(-5);
        x.image();
        x.again();
        x.restore();
        DUE.is("count(5)", x.count(5), -5);
        x.seed(LEAST);
        x.restore();
        DUE.is("seed(1)", x.seed(1), -5);
    }

    private static void sheetsStay() {
        DUE.says("All but SHEETS");
        HandOverHorse x = Walls.plain(1);
        Walls.row(x, 0, 8, 5);
        x.image();
        x.put(0, 0, 6);
        Walls.row(x, 1, 16, 6);
        x.sheet(2, 32, 40);
        x.restore();
        Walls.within(x, 0, 6, 6);
        DUE.is("a number put since", x.judge(0), 1);
        DUE.is("a SHEET made since", x.judge(1), 1);
        DUE.is("its last", x.put(2, 39, 1), 1);
        x.image();
        x.sheet(0, 0, 0);
        x.restore();
        DUE.is("a SHEET missing since", x.judge(0), Due.NONE);
    }

    private static void traceStays() {
        DUE.says("All but THE TRACE");
        HandOverHorse x = Walls.plain(1);
        x.image();
        x.voice(0, 3, 1);
        x.restore();
        DUE.is("count(4)", x.count(4), 4);
        DUE.is("trace(3)", x.trace(3), 12);
        x.image();
        x.voice(0, 2, 1);
        x.restore();
        DUE.is("count(4)", x.count(4), 1);
        DUE.is("trace(0)", x.trace(0), 12);
    }

    private static void toldStays() {
        DUE.says("All but what told() tells");
        HandOverHorse x = new HandOverHorse();
        x.stroke(-1, 0, 0);
        x.image();
        x.stroke(-1, 0, 0);
        x.trace(0);
        x.forget();
        x.restore();
        DUE.is("told(1)", x.told(1), 2);
        DUE.is("told(2)", x.told(2), 1);
        DUE.is("told(3)", x.told(3), 1);
    }

    private static void tellUpToTwenty() {
        DUE.says("One more number waits: how many. FULL: 20 wait.");
        HandOverHorse x = new HandOverHorse();
        for (int i = 1; i <= 20; i++) {
            DUE.is("tell", x.tell(i), i);
            DUE.is("count(3)", x.count(3), i);
        }
        DUE.is("a 21st", x.tell(0), Due.FULL);
        DUE.is("a 22nd", x.tell(0), Due.FULL);
        DUE.is("count(3)", x.count(3), 20);
        DUE.is("told(4)", x.told(4), 2);
        x.check();
        DUE.is("tell behind check()", x.tell(0), 1);
    }

    private static void tellTakesAnyNumber() {
        DUE.says("One more number waits");
        HandOverHorse x = new HandOverHorse();
        int waiting = 0;
        for (int v : new int[] {-1, 8, LEAST, GREATEST, Due.BEYOND}) {
            waiting++;
            DUE.is("tell(" + v + ")", x.tell(v), waiting);
        }
        DUE.is("told(1)", x.told(1), 0);
    }

    private static void checkIs(String what, HandOverHorse x, int answer, int... row) {
        for (int v : row) {
            x.tell(v);
        }
        DUE.is("check(): " + what, x.check(), answer);
        DUE.is("count(3) behind it: " + what, x.count(3), 0);
    }

    private static void noneWaitBehindCheck() {
        DUE.says("The numbers that wait (none do then)");
        HandOverHorse x = Walls.plain(2);
        checkIs("an ORDER", x, 0, 1, 0);
        checkIs("nothing", x, 1);
        checkIs("no STROKE", x, 1, 9);
        checkIs("nothing", x, 1);
        checkIs("an ORDER once more", x, 0, 0, 1);
    }

    private static void checkWithoutStrokes() {
        DUE.says("are an ORDER that holds all LOOKS: 0 (nothing, without STROKES)");
        HandOverHorse x = Walls.plain(0);
        checkIs("nothing", x, 0);
        checkIs("too many", x, 1, 0);
        checkIs("too many", x, 1, -1);
        checkIs("too many", x, 1, 0, 1);
    }

    private static void checkOfAnOrder() {
        DUE.says("are an ORDER that holds all LOOKS: 0");
        for (int n = 1; n <= 8; n++) {
            HandOverHorse x = Walls.plain(n);
            int[] up = new int[n];
            int[] down = new int[n];
            for (int i = 0; i < n; i++) {
                up[i] = i;
                down[i] = n - 1 - i;
            }
            checkIs("upwards, " + n, x, 0, up);
            checkIs("downwards, " + n, x, 0, down);
            HandOverHorse chain = Walls.chain(n);
            checkIs("upwards with LOOKS, " + n, chain, 0, up);
            checkIs("downwards with LOOKS, " + n, chain, n == 1 ? 0 : 1, down);
        }
    }

    private static void checkNoStroke() {
        DUE.says("else 1 and the place (from 0) of the first that is no STROKE");
        for (int v : new int[] {-1, 3, 4, 31, 32, 33, -32, LEAST, GREATEST}) {
            HandOverHorse x = Walls.plain(3);
            checkIs("the first, " + v, x, 1, v, 0, 1);
            checkIs("the second, " + v, x, 2, 0, v, 1);
            checkIs("the third, " + v, x, 3, 0, 1, v);
            checkIs("two, " + v, x, 2, 0, v, v);
        }
        HandOverHorse eight = Walls.plain(8);
        checkIs("the eighth is 8", eight, 8, 0, 1, 2, 3, 4, 5, 6, 8);
        checkIs("the eighth is 7", eight, 0, 0, 1, 2, 3, 4, 5, 6, 7);
    }

    private static void checkThereAhead() {
        DUE.says("the first that was there ahead");
        HandOverHorse x = Walls.plain(4);
        checkIs("the second", x, 2, 3, 3, 1, 2);
        checkIs("the third", x, 3, 3, 1, 3, 2);
        checkIs("the fourth", x, 4, 3, 1, 2, 3);
        checkIs("the fourth", x, 4, 0, 1, 2, 0);
        checkIs("two of them", x, 3, 0, 1, 1, 0);
    }

    private static void checkLooks() {
        DUE.says("the first that lies over one that is not ahead of it");
        HandOverHorse x = Walls.plain(4);
        x.over(0, 3, 1);
        checkIs("the first", x, 1, 0, 3, 1, 2);
        checkIs("the third", x, 3, 1, 2, 0, 3);
        checkIs("next to it", x, 0, 1, 3, 0, 2);
        checkIs("not at all there", x, 1, 0);
        for (int i = 0; i < 10; i++) {
            x.over(0, 3, 1);
        }
        x.over(2, 1, 1);
        checkIs("the 12th LOOK, too", x, 3, 3, 0, 2, 1);
        checkIs("it holds", x, 0, 3, 0, 1, 2);
        HandOverHorse ring = Walls.plain(2);
        ring.over(0, 1, 1);
        ring.over(1, 0, 1);
        checkIs("a ring", ring, 1, 0, 1);
        checkIs("a ring", ring, 1, 1, 0);
    }

    private static void checkLacksOrTooMany() {
        DUE.says("or of the first that lacks, or is too many");
        for (int n = 0; n <= 8; n++) {
            HandOverHorse x = Walls.plain(n);
            for (int told = 0; told <= n + 2; told++) {
                int[] row = new int[told];
                for (int i = 0; i < told; i++) {
                    row[i] = i;
                }
                checkIs(told + " of " + n, x, told < n ? told + 1 : told == n ? 0 : n + 1, row);
            }
        }
        HandOverHorse x = Walls.plain(2);
        checkIs("too many, there ahead", x, 3, 0, 1, 0);
        checkIs("too many, no STROKE", x, 3, 0, 1, -1);
        checkIs("too many, but the first is no STROKE", x, 1, 5, 1, 0);
        x.over(0, 1, 1);
        checkIs("a LOOK ahead of what lacks", x, 1, 0);
        checkIs("what lacks ahead of a LOOK", x, 2, 1);
    }

    private static void checkOfTwenty() {
        DUE.says("The numbers that wait (20 of them)");
        HandOverHorse x = Walls.plain(8);
        int[] row = new int[20];
        for (int i = 0; i < 20; i++) {
            row[i] = i % 8;
        }
        checkIs("the ninth is too many", x, 9, row);
        row[7] = 6;
        checkIs("the eighth was there ahead", x, 8, row);
    }

    private static void countByWhat() {
        DUE.says("0 STROKES, 1 LOOKS, 2 bytes of THE TAPE, 3 numbers that wait, 4 BODIES in THE TRACE, 5 z. BEYOND.");
        HandOverHorse x = Walls.chain(6);
        x.forget();
        Due.feed(x, "abc");
        x.tell(1);
        x.tell(1);
        x.voice(0, 2, 0);
        x.seed(77);
        int[] counts = {6, 4, 3, 2, 1, 77};
        for (int what = 0; what < 6; what++) {
            DUE.is("count(" + what + ")", x.count(what), counts[what]);
        }
        for (int what : new int[] {-1, 6, 7, LEAST, GREATEST}) {
            DUE.is("count(" + what + ")", x.count(what), Due.BEYOND);
        }
        DUE.is("told(1)", x.told(1), 5);
    }

    private static void countOfTheFullest() {
        DUE.says("0 STROKES, 1 LOOKS, 2 bytes of THE TAPE, 3 numbers that wait (the most of each)");
        HandOverHorse x = new HandOverHorse();
        fill(x);
        int[] counts = {8, 12, 50, 20, 8, -123456789};
        for (int what = 0; what < 6; what++) {
            DUE.is("count(" + what + ")", x.count(what), counts[what]);
        }
    }

    private static void countOfZIsAnyNumber() {
        DUE.says("5 z (any number)");
        HandOverHorse x = new HandOverHorse();
        for (int v : new int[] {0, -1, LEAST, GREATEST, Due.BEYOND, Due.KIND}) {
            x.seed(v);
            DUE.is("count(5)", x.count(5), v);
        }
        DUE.is("no ERROR: told(1)", x.told(1), 0);
        DUE.is("no ERROR: told(5)", x.told(5), 0);
    }

    private static void toldByK() {
        DUE.says("How many acts have answered an ERROR LOW - k (k 1 .. 5)");
        HandOverHorse x = Walls.plain(1);
        for (int i = 0; i < 1; i++) {
            DUE.is("BEYOND", x.best(1), Due.BEYOND);
        }
        for (int i = 0; i < 2; i++) {
            DUE.is("NONE", x.trace(0), Due.NONE);
        }
        for (int i = 0; i < 3; i++) {
            DUE.is("STATE", x.forget(), Due.STATE);
        }
        Due.feed(x, "12345678901234567890123456789012345678901234567890");
        for (int i = 0; i < 4; i++) {
            DUE.is("FULL", x.feed(0, 1), Due.FULL);
        }
        for (int i = 0; i < 5; i++) {
            DUE.is("KIND", x.as(0, 1), Due.KIND);
        }
        for (int round = 0; round < 2; round++) {
            for (int k = 1; k <= 5; k++) {
                DUE.is("told(" + k + ")", x.told(k), k);
            }
        }
    }

    private static void toldOfAnotherK() {
        DUE.says("BEYOND: another k (counted, too)");
        HandOverHorse x = new HandOverHorse();
        int counted = 0;
        for (int k : new int[] {0, 6, -1, 7, LEAST, GREATEST}) {
            DUE.is("told(" + k + ")", x.told(k), Due.BEYOND);
            counted++;
            DUE.is("told(1)", x.told(1), counted);
        }
        for (int k = 2; k <= 5; k++) {
            DUE.is("told(" + k + ")", x.told(k), 0);
        }
    }

    private static void toldCountsEach() {
        DUE.says("How many acts have answered an ERROR (each act once)");
        HandOverHorse x = new HandOverHorse();
        for (int i = 1; i <= 200; i++) {
            x.lamp(-1, -1);
            DUE.is("told(1)", x.told(1), i);
        }
        DUE.is("told(2)", x.told(2), 0);
    }

    private static void callsUpTo512() {
        DUE.says("An object is used for at most 512 calls after it has been made (the 512th, too)");
        HandOverHorse x = new HandOverHorse();
        for (int i = 1; i <= 511; i++) {
            DUE.is("call " + i, x.best(0), Due.BEYOND);
        }
        DUE.is("call 512", x.told(1), 511);
        HandOverHorse y = new HandOverHorse();
        fill(y);
        y.image();
        int call = 78;
        while (call < 510) {
            y.become(call % 8, call % 70);
            DUE.is("restore()", y.restore(), 8);
            call += 2;
        }
        DUE.is("call 511", y.ofStroke(0, 0), 0);
        DUE.is("call 512", y.image(), 2);
    }
}
