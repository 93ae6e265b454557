/**
 * Each act tells its ERRORS in the order in which they are asked; one that answers an ERROR changes
 * nothing but what told() tells: each refused call of each promise, on an object that is as full as
 * may be, on one that has a bit of all, and on a new one.
 */
public final class RefusedTest {
    private static final Due DUE = new Due("RefusedTest");
    private static final int LEAST = Integer.MIN_VALUE;
    private static final int GREATEST = Integer.MAX_VALUE;
    private static final Twins FULLEST = new Twins(DUE, () -> wall(8, 12));
    private static final Twins SOME = new Twins(DUE, () -> wall(5, 6));
    private static final Twins NEW = new Twins(DUE, HandOverHorse::new);

    public static void main(String[] args) {
        strokes();
        looks();
        noLooks();
        texts();
        orders();
        years();
        noYears();
        beasts();
        drawsAndVoices();
        sheets();
        moves();
        looksAndJudge();
        images();
        newOnes();
        asks();
        DUE.end();
    }

    /** A wall with so many STROKES and LOOKS, with texts, a tape, numbers that wait, SHEETS, an IMAGE. */
    private static HandOverHorse wall(int strokes, int looks) {
        HandOverHorse x = new HandOverHorse();
        for (int i = 0; i < strokes; i++) {
            x.stroke((10 * i + i + 1) % 70, 7 + i, 45 + 2 * i);
            x.change(i, 4, 40 + i);
            x.change(i, 6, 3 + i);
        }
        for (int i = 0; i < looks; i++) {
            int low = i % (strokes - 1);
            x.over(low + 1, low, 20 + i);
        }
        Due.read(x, 0, "c+m/9-k/90+h/99");
        Due.read(x, 1, "w+k/7+c/99");
        Due.feed(x, looks < 12 ? "c*7+m" : "c+m*2+1+2*3-4+5*6+7-8*9+1+2*3-4+5*6+7-8*9/1%2+m*10");
        for (int i = 0; i < (looks < 12 ? strokes : 20); i++) {
            x.tell(i);
        }
        sheet(x, 0, 8, 9);
        sheet(x, 1, 16, 10);
        sheet(x, 2, 32, 11);
        x.seed(-987654321);
        x.image();
        x.voice(strokes - 1, 3, 4);
        return x;
    }

    private static void sheet(HandOverHorse x, int sheet, int bits, int n) {
        x.sheet(sheet, bits, n);
        for (int i = 0; i < n; i++) {
            x.put(sheet, i, Twins.yearAt(i));
        }
    }

    private static Twins[] both() {
        return new Twins[] {FULLEST, SOME};
    }

    private static void strokes() {
        for (int km : new int[] {-1, 70, LEAST, GREATEST}) {
            for (Twins twins : both()) {
                twins.refuse("stroke(" + km + ", 0, 0)", Due.BEYOND, x -> x.stroke(km, 0, 0));
                twins.refuse("become(0, " + km + ")", Due.BEYOND, x -> x.become(0, km));
            }
        }
        for (Twins twins : both()) {
            twins.refuse("stroke(0, -1, 0)", Due.BEYOND, x -> x.stroke(0, -1, 0));
            twins.refuse("stroke(0, 36, 0)", Due.BEYOND, x -> x.stroke(0, 36, 0));
            twins.refuse("stroke(0, 0, -1)", Due.BEYOND, x -> x.stroke(0, 0, -1));
            twins.refuse("stroke(0, 0, 100)", Due.BEYOND, x -> x.stroke(0, 0, 100));
            for (int s : new int[] {-1, 8, LEAST, GREATEST}) {
                twins.refuse("ofStroke(" + s + ", 0)", Due.BEYOND, x -> x.ofStroke(s, 0));
                twins.refuse("change(" + s + ", 3, 0)", Due.BEYOND, x -> x.change(s, 3, 0));
                twins.refuse("become(" + s + ", 0)", Due.BEYOND, x -> x.become(s, 0));
                twins.refuse("as(" + s + ", 0)", Due.BEYOND, x -> x.as(s, 0));
            }
            twins.refuse("ofStroke(0, -1)", Due.BEYOND, x -> x.ofStroke(0, -1));
            twins.refuse("ofStroke(0, 10)", Due.BEYOND, x -> x.ofStroke(0, 10));
            for (int what : new int[] {-1, 0, 1, 7, 8, 9, LEAST, GREATEST}) {
                twins.refuse("change(0, " + what + ", 5)", Due.BEYOND, x -> x.change(0, what, 5));
            }
            int[] most = {0, 0, 35, 99, 9999, 9999, 99};
            for (int what = 2; what <= 6; what++) {
                int w = what;
                twins.refuse("change(0, " + w + ", -1)", Due.BEYOND, x -> x.change(0, w, -1));
                twins.refuse("change(0, " + w + ", most + 1)", Due.BEYOND, x -> x.change(0, w, most[w] + 1));
            }
            twins.refuse("as(0, -1)", Due.BEYOND, x -> x.as(0, -1));
            twins.refuse("as(0, 7)", Due.BEYOND, x -> x.as(0, 7));
            twins.refuse("as(1, 2)", Due.KIND, x -> x.as(1, 2));
        }
        FULLEST.refuse("stroke(0, 0, 0)", Due.FULL, x -> x.stroke(0, 0, 0));
        FULLEST.refuse("stroke(69, 35, 99)", Due.FULL, x -> x.stroke(69, 35, 99));
    }

    private static void looks() {
        for (Twins twins : both()) {
            for (int s : new int[] {-1, 8, LEAST, GREATEST}) {
                twins.refuse("over(" + s + ", 0, 5)", Due.BEYOND, x -> x.over(s, 0, 5));
                twins.refuse("over(0, " + s + ", 5)", Due.BEYOND, x -> x.over(0, s, 5));
            }
            twins.refuse("over(1, 1, 5)", Due.BEYOND, x -> x.over(1, 1, 5));
            twins.refuse("over(0, 1, 0)", Due.BEYOND, x -> x.over(0, 1, 0));
            twins.refuse("over(0, 1, 100)", Due.BEYOND, x -> x.over(0, 1, 100));
            for (int l : new int[] {-1, 12, LEAST, GREATEST}) {
                twins.refuse("ofLook(" + l + ", 0)", Due.BEYOND, x -> x.ofLook(l, 0));
                twins.refuse("see(" + l + ", 5)", Due.BEYOND, x -> x.see(l, 5));
            }
            twins.refuse("ofLook(0, -1)", Due.BEYOND, x -> x.ofLook(0, -1));
            twins.refuse("ofLook(0, 4)", Due.BEYOND, x -> x.ofLook(0, 4));
            twins.refuse("see(0, 0)", Due.BEYOND, x -> x.see(0, 0));
            twins.refuse("see(0, 100)", Due.BEYOND, x -> x.see(0, 100));
        }
        SOME.refuse("ofLook(6, 0)", Due.BEYOND, x -> x.ofLook(6, 0));
        SOME.refuse("see(6, 5)", Due.BEYOND, x -> x.see(6, 5));
        FULLEST.refuse("over(0, 1, 5)", Due.FULL, x -> x.over(0, 1, 5));
    }

    private static void noLooks() {
        Twins twins = new Twins(DUE, () -> wall(5, 0));
        twins.refuse("forget() without LOOKS", Due.STATE, x -> x.forget());
        twins.refuse("ofLook(0, 0) without LOOKS", Due.BEYOND, x -> x.ofLook(0, 0));
        twins.refuse("see(0, 5) without LOOKS", Due.BEYOND, x -> x.see(0, 5));
    }

    private static void texts() {
        for (Twins twins : both()) {
            for (int n : new int[] {0, 9, -1, LEAST, GREATEST}) {
                twins.refuse("feed(.., " + n + ")", Due.BEYOND, x -> x.feed(0x3131313131313131L, n));
            }
            for (int use : new int[] {-1, 2, LEAST, GREATEST}) {
                twins.refuse("text(" + use + ")", Due.BEYOND, x -> x.text(use));
                twins.refuse("law(" + use + ", 0, 0, 0, 0)", Due.BEYOND, x -> x.law(use, 0, 0, 0, 0));
            }
        }
        for (int n = 1; n <= 8; n++) {
            int bytes = n;
            FULLEST.refuse("feed(.., " + n + ")", Due.FULL, x -> x.feed(0x3131313131313131L, bytes));
        }
    }

    private static void orders() {
        for (Twins twins : both()) {
            for (int s : new int[] {-1, 8, LEAST, GREATEST}) {
                twins.refuse("sure(" + s + ", 0)", Due.BEYOND, x -> x.sure(s, 0));
                twins.refuse("sure(0, " + s + ")", Due.BEYOND, x -> x.sure(0, s));
                twins.refuse("best(" + s + ")", Due.BEYOND, x -> x.best(s));
            }
            twins.refuse("sure(0, 0)", Due.BEYOND, x -> x.sure(0, 0));
            for (int what : new int[] {-1, 2, LEAST, GREATEST}) {
                twins.refuse("wrong(" + what + ")", Due.BEYOND, x -> x.wrong(what));
            }
        }
        SOME.refuse("best(5)", Due.BEYOND, x -> x.best(5));
    }

    private static void years() {
        for (Twins twins : both()) {
            for (int s : new int[] {-1, 8, LEAST, GREATEST}) {
                twins.refuse("span(" + s + ", 0)", Due.BEYOND, x -> x.span(s, 0));
                twins.refuse("test(" + s + ", 0)", Due.BEYOND, x -> x.test(s, 0));
            }
            for (int what : new int[] {-1, 2, LEAST, GREATEST}) {
                twins.refuse("span(0, " + what + ")", Due.BEYOND, x -> x.span(0, what));
                twins.refuse("next(" + what + ")", Due.BEYOND, x -> x.next(what));
            }
            for (int year : new int[] {-1, 10000, LEAST, GREATEST}) {
                twins.refuse("test(0, " + year + ")", Due.BEYOND, x -> x.test(0, year));
            }
            twins.refuse("test(1, 0)", Due.NONE, x -> x.test(1, 0));
            twins.refuse("test(0, 9999)", Due.NONE, x -> x.test(0, 9999));
        }
    }

    /** The same wall, but the last STROKE's LATE lies ahead of its EARLY. */
    private static HandOverHorse withoutSpans(boolean ring) {
        HandOverHorse x = wall(5, 6);
        if (ring) {
            x.over(0, 4, 7);
        } else {
            x.change(4, 5, 1);
        }
        return x;
    }

    private static void noYears() {
        for (boolean ring : new boolean[] {false, true}) {
            Twins twins = new Twins(DUE, () -> withoutSpans(ring));
            twins.refuse("span(0, 0) without SPANS", Due.NONE, x -> x.span(0, 0));
            twins.refuse("span(4, 1) without SPANS", Due.NONE, x -> x.span(4, 1));
            twins.refuse("test(0, 50) without SPANS", Due.NONE, x -> x.test(0, 50));
            twins.refuse("next(0) without SPANS", Due.NONE, x -> x.next(0));
            twins.refuse("next(1) without SPANS", Due.NONE, x -> x.next(1));
            twins.refuse("span(5, 0): BEYOND ahead of NONE", Due.BEYOND, x -> x.span(5, 0));
            twins.refuse("span(0, 2): BEYOND ahead of NONE", Due.BEYOND, x -> x.span(0, 2));
            twins.refuse("test(5, 50): BEYOND ahead of NONE", Due.BEYOND, x -> x.test(5, 50));
            twins.refuse("test(0, -1): BEYOND ahead of NONE", Due.BEYOND, x -> x.test(0, -1));
            twins.refuse("next(2): BEYOND ahead of NONE", Due.BEYOND, x -> x.next(2));
            twins.refuse("times(2): BEYOND ahead of NONE", Due.BEYOND, x -> x.times(2));
        }
        Twins ring = new Twins(DUE, () -> withoutSpans(true));
        ring.refuse("times(0) of a ring", Due.NONE, x -> x.times(0));
        ring.refuse("times(1) of a ring", Due.NONE, x -> x.times(1));
    }

    private static void beasts() {
        for (Twins twins : both()) {
            for (int s : new int[] {-1, 8, LEAST, GREATEST}) {
                twins.refuse("join(" + s + ", 0)", Due.BEYOND, x -> x.join(s, 0));
                twins.refuse("join(0, " + s + ")", Due.BEYOND, x -> x.join(0, s));
            }
            twins.refuse("join(1, 1)", Due.BEYOND, x -> x.join(1, 1));
            for (int what : new int[] {-1, 2, LEAST, GREATEST}) {
                twins.refuse("joinings(" + what + ")", Due.BEYOND, x -> x.joinings(what));
                twins.refuse("times(" + what + ")", Due.BEYOND, x -> x.times(what));
            }
            for (int v : new int[] {-1, 100, LEAST, GREATEST}) {
                twins.refuse("hand(" + v + ")", Due.BEYOND, x -> x.hand(v));
                twins.refuse("lamp(" + v + ", 0)", Due.BEYOND, x -> x.lamp(v, 0));
                twins.refuse("lamp(0, " + v + ")", Due.BEYOND, x -> x.lamp(0, v));
            }
            twins.refuse("lamp(36, 0)", Due.BEYOND, x -> x.lamp(36, 0));
            twins.refuse("lamp(0, 11)", Due.BEYOND, x -> x.lamp(0, 11));
        }
    }

    private static void drawsAndVoices() {
        for (Twins twins : both()) {
            for (int s : new int[] {-1, 8, LEAST, GREATEST}) {
                twins.refuse("voice(" + s + ", 0, 0)", Due.BEYOND, x -> x.voice(s, 0, 0));
            }
            for (int act : new int[] {-1, 4, LEAST, GREATEST}) {
                twins.refuse("voice(0, " + act + ", 0)", Due.BEYOND, x -> x.voice(0, act, 0));
            }
            for (int i : new int[] {-1, 10, 39, 40, LEAST, GREATEST}) {
                twins.refuse("trace(" + i + ")", Due.NONE, x -> x.trace(i));
            }
        }
        SOME.refuse("voice(5, 0, 0)", Due.BEYOND, x -> x.voice(5, 0, 0));
    }

    private static void sheets() {
        for (Twins twins : both()) {
            for (int s : new int[] {-1, 4, LEAST, GREATEST}) {
                twins.refuse("sheet(" + s + ", 8, 5)", Due.BEYOND, x -> x.sheet(s, 8, 5));
                twins.refuse("sheet(" + s + ", 0, 5)", Due.BEYOND, x -> x.sheet(s, 0, 5));
                twins.refuse("sheet(" + s + ", 8, -1): ahead of STATE", Due.BEYOND, x -> x.sheet(s, 8, -1));
                twins.refuse("put(" + s + ", 0, 9)", Due.BEYOND, x -> x.put(s, 0, 9));
            }
            for (int bits : new int[] {-8, 1, 7, 9, 24, 64, LEAST, GREATEST}) {
                twins.refuse("sheet(0, " + bits + ", 5)", Due.BEYOND, x -> x.sheet(0, bits, 5));
                twins.refuse("sheet(0, " + bits + ", -1): ahead of STATE", Due.BEYOND, x -> x.sheet(0, bits, -1));
                twins.refuse("sheet(3, " + bits + ", 5)", Due.BEYOND, x -> x.sheet(3, bits, 5));
            }
            for (int s = 0; s < 4; s++) {
                int sheet = s;
                twins.refuse("sheet(" + s + ", 8, -1)", Due.STATE, x -> x.sheet(sheet, 8, -1));
                twins.refuse("sheet(" + s + ", 16, least)", Due.STATE, x -> x.sheet(sheet, 16, LEAST));
                twins.refuse("sheet(" + s + ", 32, 41)", Due.BEYOND, x -> x.sheet(sheet, 32, 41));
                twins.refuse("sheet(" + s + ", 8, greatest)", Due.BEYOND, x -> x.sheet(sheet, 8, GREATEST));
            }
            for (int i : new int[] {-1, 9, 40, LEAST, GREATEST}) {
                twins.refuse("put(0, " + i + ", 9)", Due.BEYOND, x -> x.put(0, i, 9));
                twins.refuse("put(3, " + i + ", 9) of a missing one", Due.NONE, x -> x.put(3, i, 9));
            }
            twins.refuse("put(3, 0, 9)", Due.NONE, x -> x.put(3, 0, 9));
            twins.refuse("put(1, 10, 9)", Due.BEYOND, x -> x.put(1, 10, 9));
            twins.refuse("put(2, 11, 9)", Due.BEYOND, x -> x.put(2, 11, 9));
        }
    }

    private static void moves() {
        for (Twins twins : both()) {
            twins.refuse("move(4, 0, 3, 0, 1): no such SHEET ahead of a missing one", Due.BEYOND, x -> x.move(4, 0, 3, 0, 1));
            twins.refuse("move(3, 0, -1, 0, 1): no such SHEET ahead of a missing one", Due.BEYOND, x -> x.move(3, 0, -1, 0, 1));
            twins.refuse("move(0, 0, 4, 0, 1)", Due.BEYOND, x -> x.move(0, 0, 4, 0, 1));
            twins.refuse("move(0, 0, 3, 0, 1)", Due.NONE, x -> x.move(0, 0, 3, 0, 1));
            twins.refuse("move(3, 0, 0, 0, 1)", Due.NONE, x -> x.move(3, 0, 0, 0, 1));
            twins.refuse("move(3, -1, 3, 0, -1): missing ahead of places", Due.NONE, x -> x.move(3, -1, 3, 0, -1));
            twins.refuse("move(0, 0, 1, 1, 3)", Due.KIND, x -> x.move(0, 0, 1, 1, 3));
            twins.refuse("move(1, 0, 2, 1, 3)", Due.KIND, x -> x.move(1, 0, 2, 1, 3));
            twins.refuse("move(0, -1, 1, 99, -1): unlike bits ahead of places", Due.KIND, x -> x.move(0, -1, 1, 99, -1));
            twins.refuse("move(0, 0, 0, 1, -1)", Due.BEYOND, x -> x.move(0, 0, 0, 1, -1));
            twins.refuse("move(0, -1, 0, 1, 3)", Due.BEYOND, x -> x.move(0, -1, 0, 1, 3));
            twins.refuse("move(0, 1, 0, -1, 3)", Due.BEYOND, x -> x.move(0, 1, 0, -1, 3));
            twins.refuse("move(0, 2, 0, 0, 8)", Due.BEYOND, x -> x.move(0, 2, 0, 0, 8));
            twins.refuse("move(0, 0, 0, 2, 8)", Due.BEYOND, x -> x.move(0, 0, 0, 2, 8));
            twins.refuse("move(0, 0, 0, 1, 9)", Due.BEYOND, x -> x.move(0, 0, 0, 1, 9));
            twins.refuse("move(0, 1, 0, 0, greatest)", Due.BEYOND, x -> x.move(0, 1, 0, 0, GREATEST));
            twins.refuse("move(0, greatest, 0, 0, 1)", Due.BEYOND, x -> x.move(0, GREATEST, 0, 0, 1));
            twins.refuse("move(0, 0, 0, greatest, 1)", Due.BEYOND, x -> x.move(0, 0, 0, GREATEST, 1));
            twins.refuse("move(0, 10, 0, 0, 0)", Due.BEYOND, x -> x.move(0, 10, 0, 0, 0));
            twins.refuse("move(0, 0, 0, 10, 0)", Due.BEYOND, x -> x.move(0, 0, 0, 10, 0));
            twins.refuse("move(0, -1, 0, 0, 0)", Due.BEYOND, x -> x.move(0, -1, 0, 0, 0));
            twins.refuse("move(0, 0, 0, -1, 0)", Due.BEYOND, x -> x.move(0, 0, 0, -1, 0));
        }
    }

    private static void looksAndJudge() {
        for (Twins twins : both()) {
            for (int s : new int[] {-1, 4, LEAST, GREATEST}) {
                twins.refuse("looks(" + s + ")", Due.BEYOND, x -> x.looks(s));
                twins.refuse("judge(" + s + ")", Due.BEYOND, x -> x.judge(s));
            }
            twins.refuse("looks(3)", Due.NONE, x -> x.looks(3));
            twins.refuse("judge(3)", Due.NONE, x -> x.judge(3));
        }
    }

    private static HandOverHorse withoutImage() {
        HandOverHorse x = Walls.chain(4);
        x.tell(0);
        x.tell(1);
        Due.feed(x, "c*7+m");
        sheet(x, 0, 8, 9);
        x.voice(2, 3, 1);
        return x;
    }

    private static void images() {
        new Twins(DUE, RefusedTest::withoutImage).refuse("restore()", Due.NONE, x -> x.restore());
        FULLEST.refuse("tell(0)", Due.FULL, x -> x.tell(0));
        FULLEST.refuse("tell(least)", Due.FULL, x -> x.tell(LEAST));
        for (Twins twins : both()) {
            for (int what : new int[] {-1, 6, LEAST, GREATEST}) {
                twins.refuse("count(" + what + ")", Due.BEYOND, x -> x.count(what));
            }
            for (int k : new int[] {0, 6, -1, LEAST, GREATEST}) {
                twins.refuse("told(" + k + ")", Due.BEYOND, x -> x.told(k));
            }
        }
    }

    /** What is only asked changes nothing at all. */
    private static void asks() {
        FULLEST.ask("ofStroke(7, 0)", 0, x -> x.ofStroke(7, 0));
        FULLEST.ask("as(1, 0)", 2, x -> x.as(1, 0));
        FULLEST.ask("ofLook(11, 2)", 31, x -> x.ofLook(11, 2));
        FULLEST.ask("law(1, 5, 0, 0, 0)", 5, x -> x.law(1, 5, 0, 0, 0));
        FULLEST.ask("orders()", 1, x -> x.orders());
        FULLEST.ask("sure(7, 0)", 1, x -> x.sure(7, 0));
        FULLEST.ask("wrong(0)", 0, x -> x.wrong(0));
        FULLEST.ask("best(7)", 7, x -> x.best(7));
        FULLEST.ask("span(7, 1)", 9999, x -> x.span(7, 1));
        FULLEST.ask("test(7, 9000) has SPANS", 1, x -> x.test(7, 9000) >= 0 ? 1 : 0);
        FULLEST.ask("next(0) has one", 1, x -> x.next(0) >= 0 ? 1 : 0);
        FULLEST.ask("join(0, 7)", 0, x -> x.join(0, 7));
        FULLEST.ask("joinings(0) are some", 1, x -> x.joinings(0) > 0 ? 1 : 0);
        FULLEST.ask("times(0)", 8, x -> x.times(0));
        FULLEST.ask("lamp(7, 0)", 1, x -> x.lamp(7, 0));
        FULLEST.ask("hand(45) is some", 1, x -> x.hand(45) > 0 ? 1 : 0);
        FULLEST.ask("trace(0)", 13, x -> x.trace(0));
        FULLEST.ask("judge(0)", 0, x -> x.judge(0));
        FULLEST.ask("count(0)", 8, x -> x.count(0));
        FULLEST.ask("told(1)", 0, x -> x.told(1));
        FULLEST.ask("move(0, 9, 0, 9, 0)", 0, x -> x.move(0, 9, 0, 9, 0));
        FULLEST.ask("looks(0) with 12 there", 0, x -> x.looks(0));
    }

    private static void newOnes() {
        NEW.refuse("new: ofStroke(0, 0)", Due.BEYOND, x -> x.ofStroke(0, 0));
        NEW.refuse("new: change(0, 2, 0)", Due.BEYOND, x -> x.change(0, 2, 0));
        NEW.refuse("new: become(0, 0)", Due.BEYOND, x -> x.become(0, 0));
        NEW.refuse("new: as(0, 0)", Due.BEYOND, x -> x.as(0, 0));
        NEW.refuse("new: over(0, 1, 5)", Due.BEYOND, x -> x.over(0, 1, 5));
        NEW.refuse("new: ofLook(0, 0)", Due.BEYOND, x -> x.ofLook(0, 0));
        NEW.refuse("new: see(0, 1)", Due.BEYOND, x -> x.see(0, 1));
        NEW.refuse("new: forget()", Due.STATE, x -> x.forget());
        NEW.refuse("new: sure(0, 1)", Due.BEYOND, x -> x.sure(0, 1));
        NEW.refuse("new: best(0)", Due.BEYOND, x -> x.best(0));
        NEW.refuse("new: span(0, 0)", Due.BEYOND, x -> x.span(0, 0));
        NEW.refuse("new: test(0, 0)", Due.BEYOND, x -> x.test(0, 0));
        NEW.refuse("new: next(0)", Due.NONE, x -> x.next(0));
        NEW.refuse("new: next(1)", Due.NONE, x -> x.next(1));
        NEW.refuse("new: next(2)", Due.BEYOND, x -> x.next(2));
        NEW.refuse("new: join(0, 1)", Due.BEYOND, x -> x.join(0, 1));
        NEW.refuse("new: voice(0, 0, 0)", Due.BEYOND, x -> x.voice(0, 0, 0));
        NEW.refuse("new: trace(0)", Due.NONE, x -> x.trace(0));
        NEW.refuse("new: put(0, 0, 0)", Due.NONE, x -> x.put(0, 0, 0));
        NEW.refuse("new: move(0, 0, 0, 0, 0)", Due.NONE, x -> x.move(0, 0, 0, 0, 0));
        NEW.refuse("new: looks(0)", Due.NONE, x -> x.looks(0));
        NEW.refuse("new: judge(0)", Due.NONE, x -> x.judge(0));
        NEW.refuse("new: restore()", Due.NONE, x -> x.restore());
    }
}
