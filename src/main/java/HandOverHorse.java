/**
 * A cave wall on which strokes lie over one another. The public face answers as ../shared/DOC.md
 * promises; words in capitals are the document's. Answers below LOW are its ERRORS.
 */
public final class HandOverHorse {
    private static final int LOW = -1000000000;
    private static final int BEYOND = 1;
    private static final int NONE = 2;
    private static final int STATE = 3;
    private static final int FULL = 4;
    private static final int KIND = 5;

    private static final int MOST_STROKES = 8;
    private static final int MOST_LOOKS = 12;
    private static final int MOST_BYTES = 50;
    private static final int MOST_WAITING = 20;
    private static final int MOST_TRACE = 40;
    private static final int MOST_SHEETS = 4;
    private static final int MOST_NUMBERS = 40;
    private static final int ALL_SETS = 256;

    private static final int LAST_KIND = 6;
    private static final int LAST_KM = 69;
    private static final int LAST_CELL = 35;
    private static final int LAST_HAND = 99;
    private static final int LAST_SEEN = 99;
    private static final int LAST_YEAR = 9999;
    private static final int LAST_BRIGHT = 10;
    private static final int LIKE_HANDS = 9;

    private static final int DATES = 0;
    private static final int DOUBTS = 1;

    /** The greatest value that change() takes, by its what; -1: it takes none. */
    private static final int[] MOST_OF_PART = {-1, -1, 35, 99, 9999, 9999, 99};

    private final Wall wall;
    private final Wall kept;
    private final Sets sets;
    private final Spans spans;
    private final int[][] sheets;
    private final int[] sheetBits;
    private final int[] sheetSizes;
    /** How many BODIES at 0, the BODIES behind it. */
    private final int[] bodies;
    private final int[] errors;
    private int images;

    public HandOverHorse() {
        wall = new Wall();
        kept = new Wall();
        sets = new Sets();
        spans = new Spans();
        sheets = new int[MOST_SHEETS][MOST_NUMBERS];
        sheetBits = new int[MOST_SHEETS];
        sheetSizes = new int[MOST_SHEETS];
        bodies = new int[MOST_TRACE + 1];
        errors = new int[KIND + 1];
        images = 0;
    }

    private int error(int k) {
        errors[k]++;
        return LOW - k;
    }

    // ---- strokes, looks

    public int stroke(int km, int cell, int hand) {
        if (!Wall.within(km, LAST_KM) || !Wall.within(cell, LAST_CELL) || !Wall.within(hand, LAST_HAND)) {
            return error(BEYOND);
        }
        if (wall.strokeCount >= MOST_STROKES) {
            return error(FULL);
        }
        return wall.addStroke(km, cell, hand);
    }

    public int ofStroke(int stroke, int what) {
        if (!wall.hasStroke(stroke)) {
            return error(BEYOND);
        }
        switch (what) {
            case 0:
                return wall.strokes[stroke].kind();
            case 1:
            case 2:
            case 3:
            case 4:
            case 5:
            case 6:
                return wall.strokes[stroke].part(what);
            case 7:
                return wall.earlyOf(stroke);
            case 8:
                return wall.lateOf(stroke);
            case 9:
                return wall.strokes[stroke].stuff();
            default:
                return error(BEYOND);
        }
    }

    public int change(int stroke, int what, int v) {
        if (!wall.hasStroke(stroke) || what < 0 || what >= MOST_OF_PART.length
                || !Wall.within(v, MOST_OF_PART[what])) {
            return error(BEYOND);
        }
        int was = wall.strokes[stroke].part(what);
        wall.strokes[stroke].setPart(what, v);
        return was;
    }

    public int become(int stroke, int km) {
        if (!wall.hasStroke(stroke) || !Wall.within(km, LAST_KM)) {
            return error(BEYOND);
        }
        int was = wall.strokes[stroke].kind();
        wall.makeOfKind(stroke, km / 10);
        wall.strokes[stroke].m = km % 10;
        return was;
    }

    public int as(int stroke, int kind) {
        if (!wall.hasStroke(stroke) || !Wall.within(kind, LAST_KIND)) {
            return error(BEYOND);
        }
        return wall.strokes[stroke].isOf(kind) ? wall.strokes[stroke].m : error(KIND);
    }

    public int over(int one, int other, int seen) {
        if (!wall.isLook(one, other, seen)) {
            return error(BEYOND);
        }
        if (wall.lookCount >= MOST_LOOKS) {
            return error(FULL);
        }
        return wall.addLook(one, other, seen);
    }

    public int ofLook(int look, int what) {
        if (!wall.hasLook(look)) {
            return error(BEYOND);
        }
        switch (what) {
            case 0:
                return wall.uppers[look];
            case 1:
                return wall.lowers[look];
            case 2:
                return wall.seens[look];
            case 3:
                return wall.weightOf(look);
            default:
                return error(BEYOND);
        }
    }

    public int see(int look, int v) {
        if (!wall.hasLook(look) || v < 1 || v > LAST_SEEN) {
            return error(BEYOND);
        }
        int was = wall.seens[look];
        wall.seens[look] = v;
        return was;
    }

    public int forget() {
        if (wall.lookCount == 0) {
            return error(STATE);
        }
        wall.lookCount--;
        return wall.lookCount;
    }

    // ---- texts

    public int feed(long word, int n) {
        if (n < 1 || n > 8) {
            return error(BEYOND);
        }
        if (wall.tapeCount + n > MOST_BYTES) {
            return error(FULL);
        }
        wall.addBytes(word, n);
        return wall.tapeCount;
    }

    public int text(int use) {
        if (!Wall.within(use, DOUBTS)) {
            return error(BEYOND);
        }
        int fault = wall.readTape(use);
        return fault < 0 ? 1 : -10 - fault;
    }

    public int law(int use, int a, int b, int c, int d) {
        if (!Wall.within(use, DOUBTS)) {
            return error(BEYOND);
        }
        return wall.givenBy(use, a, b, c, d);
    }

    // ---- orders

    public int orders() {
        return sets.countOrders(wall);
    }

    public int sure(int one, int other) {
        if (!wall.areTwo(one, other)) {
            return error(BEYOND);
        }
        return sets.surely(wall, one, other);
    }

    public int wrong(int what) {
        if (!Wall.within(what, 1)) {
            return error(BEYOND);
        }
        sets.findBestOrder(wall);
        return what == 0 ? sets.leastLoss() : sets.looksNotHeld(wall);
    }

    public int best(int i) {
        if (!wall.hasStroke(i)) {
            return error(BEYOND);
        }
        sets.findBestOrder(wall);
        return sets.bestOrder[i];
    }

    // ---- years

    public int span(int stroke, int what) {
        if (!wall.hasStroke(stroke) || !Wall.within(what, 1)) {
            return error(BEYOND);
        }
        spans.load(wall);
        if (!spans.settle(wall)) {
            return error(NONE);
        }
        return what == 0 ? spans.least[stroke] : spans.greatest[stroke];
    }

    public int test(int stroke, int year) {
        if (!wall.hasStroke(stroke) || !Wall.within(year, LAST_YEAR)) {
            return error(BEYOND);
        }
        spans.load(wall);
        int width = spans.widthByTest(wall, stroke, year);
        return width < 0 ? error(NONE) : width;
    }

    public int next(int what) {
        if (!Wall.within(what, 1)) {
            return error(BEYOND);
        }
        spans.load(wall);
        if (wall.strokeCount == 0 || !spans.findNext(wall)) {
            return error(NONE);
        }
        return what == 0 ? spans.nextStroke : spans.nextWorst;
    }

    // ---- beasts, times, lamps, hands

    public int join(int one, int other) {
        if (!wall.areTwo(one, other)) {
            return error(BEYOND);
        }
        return wall.twoJoin(one, other) ? 1 : 0;
    }

    public int joinings(int what) {
        if (!Wall.within(what, 1)) {
            return error(BEYOND);
        }
        sets.findJoinings(wall);
        return what == 0 ? sets.joiningCount(wall) : sets.fewestBeasts(wall);
    }

    public int times(int what) {
        if (!Wall.within(what, 1)) {
            return error(BEYOND);
        }
        if (!sets.findTimes(wall)) {
            return error(NONE);
        }
        return what == 0 ? sets.fewestTimes() : sets.firstTime(wall);
    }

    public int lamp(int cell, int bright) {
        if (!Wall.within(cell, LAST_CELL) || !Wall.within(bright, LAST_BRIGHT)) {
            return error(BEYOND);
        }
        int lit = 0;
        for (int i = 0; i < wall.strokeCount; i++) {
            if (Wall.far(wall.strokes[i].cell, cell) <= bright) {
                lit |= 1 << i;
            }
        }
        return lit;
    }

    public int hand(int high) {
        if (!Wall.within(high, LAST_HAND)) {
            return error(BEYOND);
        }
        int found = 0;
        // A greatest set holds all STROKES between its lowest HAND and 9 more; one such stretch
        // that is wholly near to high holds it, as each of its HANDS is near to high.
        for (int low = high - LIKE_HANDS; low <= high; low++) {
            int set = wall.handsFrom(low);
            int more = Integer.bitCount(set) - Integer.bitCount(found);
            if (more > 0 || more == 0 && set < found) {
                found = set;
            }
        }
        return found;
    }

    // ---- draws, voices, sheets, images, what is told

    public int again() {
        int turned = 0;
        for (int i = 0; i < wall.lookCount; i++) {
            if (wall.drawn() % 100 >= wall.seens[i]) {
                wall.turnLook(i);
                turned++;
            }
        }
        return turned;
    }

    public int seed(int v) {
        int was = wall.z;
        wall.z = v;
        return was;
    }

    public int voice(int stroke, int act, int x) {
        if (!wall.hasStroke(stroke) || !Wall.within(act, 3)) {
            return error(BEYOND);
        }
        bodies[0] = 0;
        switch (act) {
            case 0:
                return wall.strokes[stroke].draws(bodies, x);
            case 1:
                return wall.strokes[stroke].dries(bodies, x);
            case 2:
                return wall.strokes[stroke].peels(bodies, x);
            default:
                return wall.strokes[stroke].tells(bodies, x);
        }
    }

    public int trace(int i) {
        if (i < 0 || i >= bodies[0] || i >= MOST_TRACE) {
            return error(NONE);
        }
        return bodies[i + 1];
    }

    private static boolean isSheet(int sheet) {
        return Wall.within(sheet, MOST_SHEETS - 1);
    }

    private static boolean areBits(int bits) {
        return bits == 0 || bits == 8 || bits == 16 || bits == 32;
    }

    public int sheet(int sheet, int bits, int n) {
        if (!isSheet(sheet) || !areBits(bits)) {
            return error(BEYOND);
        }
        if (bits != 0 && n < 0) {
            return error(STATE);
        }
        if (bits != 0 && n > MOST_NUMBERS) {
            return error(BEYOND);
        }
        sheetBits[sheet] = bits;
        sheetSizes[sheet] = bits == 0 ? 0 : n;
        for (int i = 0; i < MOST_NUMBERS; i++) {
            sheets[sheet][i] = 0;
        }
        return 1;
    }

    public int put(int sheet, int i, int v) {
        if (!isSheet(sheet)) {
            return error(BEYOND);
        }
        if (sheetBits[sheet] == 0) {
            return error(NONE);
        }
        if (i < 0 || i >= sheetSizes[sheet]) {
            return error(BEYOND);
        }
        int unused = 32 - sheetBits[sheet];
        sheets[sheet][i] = v << unused >> unused;
        return 1;
    }

    private boolean stand(int sheet, int i, int n) {
        return n >= 0 && i >= 0 && n <= sheetSizes[sheet] && i <= sheetSizes[sheet] - n;
    }

    public int move(int sheet, int i, int other, int j, int n) {
        if (!isSheet(sheet) || !isSheet(other)) {
            return error(BEYOND);
        }
        if (sheetBits[sheet] == 0 || sheetBits[other] == 0) {
            return error(NONE);
        }
        if (sheetBits[sheet] != sheetBits[other]) {
            return error(KIND);
        }
        if (!stand(sheet, i, n) || !stand(other, j, n)) {
            return error(BEYOND);
        }
        System.arraycopy(sheets[sheet], i, sheets[other], j, n);
        return n;
    }

    public int looks(int sheet) {
        if (!isSheet(sheet)) {
            return error(BEYOND);
        }
        if (sheetBits[sheet] == 0) {
            return error(NONE);
        }
        int[] row = sheets[sheet];
        int came = 0;
        for (int i = 0; i + 2 < sheetSizes[sheet]; i += 3) {
            if (wall.lookCount >= MOST_LOOKS || !wall.isLook(row[i], row[i + 1], row[i + 2])) {
                break;
            }
            wall.addLook(row[i], row[i + 1], row[i + 2]);
            came++;
        }
        return came;
    }

    public int judge(int sheet) {
        if (!isSheet(sheet)) {
            return error(BEYOND);
        }
        if (sheetBits[sheet] == 0) {
            return error(NONE);
        }
        int[] years = sheets[sheet];
        for (int i = 0; i < wall.strokeCount; i++) {
            if (i >= sheetSizes[sheet] || years[i] < wall.earlyOf(i) || years[i] > wall.lateOf(i)
                    || !wall.holdsUpTo(i, years)) {
                return i;
            }
        }
        return wall.strokeCount;
    }

    public int image() {
        kept.copyFrom(wall);
        images++;
        return images;
    }

    public int restore() {
        if (images == 0) {
            return error(NONE);
        }
        wall.copyFrom(kept);
        return wall.strokeCount;
    }

    public int tell(int v) {
        if (wall.waitingCount >= MOST_WAITING) {
            return error(FULL);
        }
        wall.waiting[wall.waitingCount] = v;
        wall.waitingCount++;
        return wall.waitingCount;
    }

    public int check() {
        int fault = wall.faultOfWaiting();
        wall.waitingCount = 0;
        return fault + 1;
    }

    public int count(int what) {
        switch (what) {
            case 0:
                return wall.strokeCount;
            case 1:
                return wall.lookCount;
            case 2:
                return wall.tapeCount;
            case 3:
                return wall.waitingCount;
            case 4:
                return bodies[0];
            case 5:
                return wall.z;
            default:
                return error(BEYOND);
        }
    }

    public int told(int k) {
        if (k < BEYOND || k > KIND) {
            return error(BEYOND);
        }
        return errors[k];
    }

    // ---- the KINDS

    /**
     * A STROKE of the KIND STROKE; the KINDS under it say what is other with them. No annotation
     * stands there, as LANGUAGE.md lists none.
     */
    static class Stroke {
        int number;
        int m;
        int cell;
        int hand;
        int from;
        int to;
        int crust;

        Stroke() {
            to = LAST_YEAR;
        }

        final void copyFrom(Stroke s) {
            number = s.number;
            m = s.m;
            cell = s.cell;
            hand = s.hand;
            from = s.from;
            to = s.to;
            crust = s.crust;
        }

        /** A part by the document's what, 1 to 6. */
        final int part(int what) {
            switch (what) {
                case 1:
                    return m;
                case 2:
                    return cell;
                case 3:
                    return hand;
                case 4:
                    return from;
                case 5:
                    return to;
                default:
                    return crust;
            }
        }

        /** The same whats, but for m, which only become() changes. */
        final void setPart(int what, int v) {
            switch (what) {
                case 2:
                    cell = v;
                    break;
                case 3:
                    hand = v;
                    break;
                case 4:
                    from = v;
                    break;
                case 5:
                    to = v;
                    break;
                default:
                    crust = v;
                    break;
            }
        }

        static void begin(int[] bodies, int body) {
            if (bodies[0] < MOST_TRACE) {
                bodies[0]++;
                bodies[bodies[0]] = body;
            }
        }

        int kind() {
            return 0;
        }

        boolean isOf(int kind) {
            return kind == 0;
        }

        int early() {
            return from;
        }

        int late() {
            return to;
        }

        int stuff() {
            return 0;
        }

        int gap() {
            return 1;
        }

        int draws(int[] bodies, int x) {
            begin(bodies, 10);
            return x + number;
        }

        int dries(int[] bodies, int x) {
            begin(bodies, 11);
            return draws(bodies, x) * 2;
        }

        int peels(int[] bodies, int x) {
            begin(bodies, 12);
            return x - m;
        }

        int tells(int[] bodies, int x) {
            begin(bodies, 13);
            return dries(bodies, x) ^ peels(bodies, x);
        }
    }

    static class Red extends Stroke {
        int kind() {
            return 1;
        }

        boolean isOf(int kind) {
            return kind == 1 || super.isOf(kind);
        }

        int early() {
            return super.early() + m;
        }

        int stuff() {
            return 1;
        }

        int gap() {
            return super.gap() + m / 3;
        }

        int dries(int[] bodies, int x) {
            begin(bodies, 20);
            return super.dries(bodies, x) - peels(bodies, 1);
        }
    }

    static class Black extends Stroke {
        int kind() {
            return 2;
        }

        boolean isOf(int kind) {
            return kind == 2 || super.isOf(kind);
        }

        int late() {
            return super.late() - crust;
        }

        int stuff() {
            return 2;
        }

        int draws(int[] bodies, int x) {
            begin(bodies, 30);
            return super.draws(bodies, x) * 3;
        }
    }

    static class Scratch extends Stroke {
        int kind() {
            return 3;
        }

        boolean isOf(int kind) {
            return kind == 3 || super.isOf(kind);
        }

        int early() {
            return super.early() - 10 * m;
        }

        int stuff() {
            return 3;
        }

        int gap() {
            return 2;
        }

        int peels(int[] bodies, int x) {
            begin(bodies, 40);
            return -super.peels(bodies, x);
        }
    }

    static final class Child extends Red {
        int kind() {
            return 4;
        }

        boolean isOf(int kind) {
            return kind == 4 || super.isOf(kind);
        }

        int early() {
            return super.early() + 50;
        }

        int late() {
            return super.late() - m;
        }

        int gap() {
            return 0;
        }

        int dries(int[] bodies, int x) {
            begin(bodies, 50);
            return super.dries(bodies, x + 1);
        }
    }

    static final class Soot extends Black {
        int kind() {
            return 5;
        }

        boolean isOf(int kind) {
            return kind == 5 || super.isOf(kind);
        }

        int early() {
            return super.early() + crust;
        }

        /** Twice CRUST less than as STROKE: BLACK takes it off once. */
        int late() {
            return super.late() - crust;
        }

        int gap() {
            return super.gap() + 1;
        }

        int tells(int[] bodies, int x) {
            begin(bodies, 60);
            return super.tells(bodies, x) - draws(bodies, 2);
        }
    }

    static final class Forged extends Scratch {
        int kind() {
            return 6;
        }

        boolean isOf(int kind) {
            return kind == 6 || super.isOf(kind);
        }

        int early() {
            return Math.max(super.early(), 5000);
        }

        int late() {
            return LAST_YEAR;
        }

        int gap() {
            return super.gap() + m;
        }

        int peels(int[] bodies, int x) {
            begin(bodies, 70);
            return super.peels(bodies, x) ^ number;
        }

        int tells(int[] bodies, int x) {
            begin(bodies, 71);
            return dries(bodies, x) - super.tells(bodies, x);
        }
    }

    // ---- what an IMAGE keeps

    /** STROKES, LOOKS, THE TAPE, TEXTS, the numbers that wait, and z: all that an IMAGE keeps. */
    static final class Wall {
        /** No place is ever null; those from strokeCount on are free. */
        final Stroke[] strokes;
        int strokeCount;
        final int[] uppers;
        final int[] lowers;
        final int[] seens;
        int lookCount;
        final int[] tape;
        int tapeCount;
        final Text[] texts;
        /** Read first, so that a FAULT leaves the TEXT ahead as it was. */
        final Text draft;
        final int[] waiting;
        int waitingCount;
        int z;

        Wall() {
            strokes = new Stroke[MOST_STROKES];
            for (int i = 0; i < MOST_STROKES; i++) {
                strokes[i] = new Stroke();
            }
            uppers = new int[MOST_LOOKS];
            lowers = new int[MOST_LOOKS];
            seens = new int[MOST_LOOKS];
            tape = new int[MOST_BYTES];
            texts = new Text[2];
            texts[DATES] = new Text();
            texts[DOUBTS] = new Text();
            draft = new Text();
            waiting = new int[MOST_WAITING];
            z = 1;
        }

        void copyFrom(Wall w) {
            for (int i = 0; i < w.strokeCount; i++) {
                makeOfKind(i, w.strokes[i].kind());
                strokes[i].copyFrom(w.strokes[i]);
            }
            strokeCount = w.strokeCount;
            for (int i = 0; i < w.lookCount; i++) {
                uppers[i] = w.uppers[i];
                lowers[i] = w.lowers[i];
                seens[i] = w.seens[i];
            }
            lookCount = w.lookCount;
            System.arraycopy(w.tape, 0, tape, 0, MOST_BYTES);
            tapeCount = w.tapeCount;
            texts[DATES].copyFrom(w.texts[DATES]);
            texts[DOUBTS].copyFrom(w.texts[DOUBTS]);
            System.arraycopy(w.waiting, 0, waiting, 0, MOST_WAITING);
            waitingCount = w.waitingCount;
            z = w.z;
        }

        static boolean within(int v, int most) {
            return v >= 0 && v <= most;
        }

        static int held(int v, int least, int most) {
            return Math.max(least, Math.min(most, v));
        }

        static int far(int cell, int other) {
            return Math.abs(cell / 6 - other / 6) + Math.abs(cell % 6 - other % 6);
        }

        boolean hasStroke(int stroke) {
            return stroke >= 0 && stroke < strokeCount;
        }

        boolean areTwo(int one, int other) {
            return hasStroke(one) && hasStroke(other) && one != other;
        }

        private static Stroke blankOfKind(int kind) {
            switch (kind) {
                case 1:
                    return new Red();
                case 2:
                    return new Black();
                case 3:
                    return new Scratch();
                case 4:
                    return new Child();
                case 5:
                    return new Soot();
                case 6:
                    return new Forged();
                default:
                    return new Stroke();
            }
        }

        /** Only a change of KIND makes an object, so that many restores stay small. */
        void makeOfKind(int stroke, int kind) {
            if (strokes[stroke].kind() != kind) {
                Stroke made = blankOfKind(kind);
                made.copyFrom(strokes[stroke]);
                strokes[stroke] = made;
            }
        }

        int addStroke(int km, int cell, int hand) {
            int number = strokeCount;
            Stroke made = blankOfKind(km / 10);
            made.number = number;
            made.m = km % 10;
            made.cell = cell;
            made.hand = hand;
            strokes[number] = made;
            strokeCount++;
            return number;
        }

        int earlyOf(int stroke) {
            return held(strokes[stroke].early() + datesOf(stroke), 0, LAST_YEAR);
        }

        int lateOf(int stroke) {
            return held(strokes[stroke].late() + datesOf(stroke), 0, LAST_YEAR);
        }

        private int datesOf(int stroke) {
            Stroke s = strokes[stroke];
            return givenBy(DATES, s.crust, s.m, s.kind(), s.hand);
        }

        boolean twoJoin(int one, int other) {
            Stroke a = strokes[one];
            Stroke b = strokes[other];
            return a.stuff() == b.stuff() && Math.abs(a.hand - b.hand) <= LIKE_HANDS
                    && far(a.cell, b.cell) <= a.gap() + b.gap();
        }

        /** The STROKES whose HAND is low to low + 9, as bits. */
        int handsFrom(int low) {
            int set = 0;
            for (int i = 0; i < strokeCount; i++) {
                if (strokes[i].hand >= low && strokes[i].hand <= low + LIKE_HANDS) {
                    set |= 1 << i;
                }
            }
            return set;
        }

        boolean hasLook(int look) {
            return look >= 0 && look < lookCount;
        }

        boolean isLook(int one, int other, int seen) {
            return areTwo(one, other) && seen >= 1 && seen <= LAST_SEEN;
        }

        int addLook(int one, int other, int seen) {
            int look = lookCount;
            uppers[look] = one;
            lowers[look] = other;
            seens[look] = seen;
            lookCount++;
            return look;
        }

        void turnLook(int look) {
            int one = uppers[look];
            uppers[look] = lowers[look];
            lowers[look] = one;
        }

        int weightOf(int look) {
            Stroke one = strokes[uppers[look]];
            return givenBy(DOUBTS, seens[look], one.kind(), one.crust, 0);
        }

        int drawn() {
            z = z * 1103515245 + 12345;
            return z >>> 8;
        }

        /** Whether the LOOKS of a STROKE with those ahead of it hold in these YEARS. */
        boolean holdsUpTo(int stroke, int[] years) {
            for (int i = 0; i < lookCount; i++) {
                if (Math.max(uppers[i], lowers[i]) == stroke && years[uppers[i]] <= years[lowers[i]]) {
                    return false;
                }
            }
            return true;
        }

        void addBytes(long word, int n) {
            long left = word;
            for (int i = 0; i < n; i++) {
                tape[tapeCount] = (int) (left & 255L);
                tapeCount++;
                left >>>= 8;
            }
        }

        /** THE TAPE becomes the TEXT of a USE and is empty: -1, or the FAULT. */
        int readTape(int use) {
            int fault = draft.read(tape, tapeCount, use == DATES ? "cmkh" : "wkc");
            if (fault < 0) {
                texts[use].copyFrom(draft);
            }
            tapeCount = 0;
            return fault;
        }

        int givenBy(int use, int a, int b, int c, int d) {
            if (use == DATES) {
                return texts[DATES].isEmpty() ? 0 : held(texts[DATES].workOut(a, b, c, d), -999, 999);
            }
            return held(texts[DOUBTS].isEmpty() ? a : texts[DOUBTS].workOut(a, b, c, d), 0, 999);
        }

        /** The place of the first number that waits and spoils an ORDER; -1 if none does. */
        int faultOfWaiting() {
            int ahead = 0;
            for (int i = 0; i < waitingCount; i++) {
                int v = waiting[i];
                if (!hasStroke(v) || (ahead >> v & 1) != 0 || !allBelowAre(ahead, v)) {
                    return i;
                }
                ahead |= 1 << v;
            }
            return waitingCount < strokeCount ? waitingCount : -1;
        }

        private boolean allBelowAre(int ahead, int stroke) {
            for (int i = 0; i < lookCount; i++) {
                if (uppers[i] == stroke && (ahead >> lowers[i] & 1) == 0) {
                    return false;
                }
            }
            return true;
        }
    }

    // ---- texts

    /** A TEXT as steps, each behind those whose values it takes; and how it is read. */
    static final class Text {
        private static final int NUMBER = 0;
        private static final int NAME = 1;
        private static final int COMPARING = 2;
        private static final int LEAVES = 5;
        private static final int MOST_OPEN = 5;
        private static final int MOST_DIGITS = 4;

        /** NUMBER, NAME, or the sign that joins values. */
        private final int[] steps;
        /** The NUMBER, or the place of the NAME. */
        private final int[] values;
        private int size;
        private final int[] stack;
        private int[] tape;
        private int tapeCount;
        private int place;
        private String names;

        Text() {
            steps = new int[MOST_BYTES];
            values = new int[MOST_BYTES];
            stack = new int[MOST_BYTES];
            tape = new int[0];
            names = "";
        }

        void copyFrom(Text t) {
            size = t.size;
            for (int i = 0; i < t.size; i++) {
                steps[i] = t.steps[i];
                values[i] = t.values[i];
            }
        }

        boolean isEmpty() {
            return size == 0;
        }

        /** Reads a TEXT with these NAMES: -1, or its FAULT. */
        int read(int[] bytes, int count, String useNames) {
            tape = bytes;
            tapeCount = count;
            names = useNames;
            place = 0;
            size = 0;
            return readLevel(0, 0) && place == tapeCount ? -1 : place;
        }

        private int here() {
            return place < tapeCount && place < tape.length ? tape[place] : -1;
        }

        private static boolean isDigit(int sign) {
            return sign >= '0' && sign <= '9';
        }

        /** How tightly a sign binds: | 0 to * 4; -1: it joins nothing. */
        private static int levelOf(int sign) {
            switch (sign) {
                case '|':
                    return 0;
                case '&':
                    return 1;
                case '<':
                case '=':
                case '>':
                    return COMPARING;
                case '+':
                case '-':
                    return 3;
                case '*':
                case '/':
                case '%':
                    return 4;
                default:
                    return -1;
            }
        }

        /** Reads T, A, B, S, P (levels 0 to 4) or Q (5); if not, place is at the FAULT. */
        private boolean readLevel(int level, int open) {
            if (level >= LEAVES) {
                return readLeaf(open);
            }
            if (!readLevel(level + 1, open)) {
                return false;
            }
            for (int i = 0; i < MOST_BYTES && levelOf(here()) == level; i++) {
                int sign = here();
                place++;
                if (!readLevel(level + 1, open)) {
                    return false;
                }
                addStep(sign, 0);
                if (level == COMPARING) {
                    return true;
                }
            }
            return true;
        }

        private boolean readLeaf(int open) {
            int sign = here();
            if (isDigit(sign)) {
                readNumber();
                return true;
            }
            if (sign == '!' || sign == '(') {
                if (open >= MOST_OPEN) {
                    return false;
                }
                place++;
                return sign == '!' ? readNot(open + 1) : readBracket(open + 1);
            }
            int name = sign < 0 ? -1 : names.indexOf((char) sign);
            if (name < 0) {
                return false;
            }
            place++;
            addStep(NAME, name);
            return true;
        }

        private boolean readNot(int open) {
            if (!readLeaf(open)) {
                return false;
            }
            addStep('!', 0);
            return true;
        }

        private boolean readBracket(int open) {
            if (!readLevel(0, open) || here() != ')') {
                return false;
            }
            place++;
            return true;
        }

        private void readNumber() {
            int number = 0;
            for (int i = 0; i < MOST_DIGITS && isDigit(here()); i++) {
                number = number * 10 + here() - '0';
                place++;
            }
            addStep(NUMBER, number);
        }

        private void addStep(int step, int value) {
            if (size < steps.length) {
                steps[size] = step;
                values[size] = value;
                size++;
            }
        }

        int workOut(int a, int b, int c, int d) {
            int top = -1;
            for (int i = 0; i < size; i++) {
                int step = steps[i];
                if (step == NUMBER || step == NAME) {
                    if (top < stack.length - 1) {
                        top++;
                        stack[top] = step == NUMBER ? values[i] : named(values[i], a, b, c, d);
                    }
                } else if (step == '!') {
                    if (top >= 0) {
                        stack[top] = stack[top] == 0 ? 1 : 0;
                    }
                } else if (top >= 1) {
                    top--;
                    stack[top] = joined(step, stack[top], stack[top + 1]);
                }
            }
            return stack[0];
        }

        private static int named(int name, int a, int b, int c, int d) {
            switch (name) {
                case 0:
                    return a;
                case 1:
                    return b;
                case 2:
                    return c;
                default:
                    return d;
            }
        }

        private static int joined(int sign, int a, int b) {
            switch (sign) {
                case '|':
                    return a != 0 || b != 0 ? 1 : 0;
                case '&':
                    return a != 0 && b != 0 ? 1 : 0;
                case '<':
                    return a < b ? 1 : 0;
                case '=':
                    return a == b ? 1 : 0;
                case '>':
                    return a > b ? 1 : 0;
                case '+':
                    return a + b;
                case '-':
                    return a - b;
                case '*':
                    return a * b;
                case '/':
                    return b == 0 ? 0 : a / b;
                default:
                    return b == 0 ? 0 : a % b;
            }
        }
    }

    // ---- sets of STROKES

    /** What is found by going through the sets of STROKES (as bits): ORDERS, JOININGS, TIMES. */
    static final class Sets {
        private static final int MANY = 1000000;
        private static final int STUFFS = 4;

        final int[] bestOrder;
        /** Of each STROKE: those that LOOKS have right below it, as bits. */
        private final int[] below;
        /** Of each STROKE: those that JOIN it, as bits. */
        private final int[] friends;
        /** WEIGHTS by one OVER (times 8) and the other. */
        private final int[] loss;
        /** STROKES of each STUFF, as bits. */
        private final int[] alike;
        private final int[] ways;
        private final int[] fewest;
        private final boolean[] beast;

        Sets() {
            bestOrder = new int[MOST_STROKES];
            below = new int[MOST_STROKES];
            friends = new int[MOST_STROKES];
            loss = new int[MOST_STROKES * MOST_STROKES];
            alike = new int[STUFFS];
            ways = new int[ALL_SETS];
            fewest = new int[ALL_SETS];
            beast = new boolean[ALL_SETS];
        }

        private static int allOf(Wall wall) {
            return (1 << wall.strokeCount) - 1;
        }

        private static boolean has(int set, int stroke) {
            return (set >> stroke & 1) != 0;
        }

        private void findBelow(Wall wall) {
            for (int i = 0; i < MOST_STROKES; i++) {
                below[i] = 0;
            }
            for (int i = 0; i < wall.lookCount; i++) {
                below[wall.uppers[i]] |= 1 << wall.lowers[i];
            }
        }

        /** The STROKES that may come next, when a set stands already. */
        private int readyAfter(int set, int n) {
            int ready = 0;
            for (int i = 0; i < n; i++) {
                if (!has(set, i) && (below[i] & ~set) == 0) {
                    ready |= 1 << i;
                }
            }
            return ready;
        }

        int countOrders(Wall wall) {
            findBelow(wall);
            int all = allOf(wall);
            for (int set = 1; set <= all; set++) {
                ways[set] = 0;
            }
            ways[0] = 1;
            for (int set = 0; set < all; set++) {
                if (ways[set] != 0) {
                    int ready = readyAfter(set, wall.strokeCount);
                    for (int i = 0; i < wall.strokeCount; i++) {
                        if (has(ready, i)) {
                            ways[set | 1 << i] += ways[set];
                        }
                    }
                }
            }
            return ways[all];
        }

        int surely(Wall wall, int one, int other) {
            findBelow(wall);
            int n = wall.strokeCount;
            for (int k = 0; k < n; k++) {
                for (int i = 0; i < n; i++) {
                    if (has(below[i], k)) {
                        below[i] |= below[k];
                    }
                }
            }
            for (int i = 0; i < n; i++) {
                if (has(below[i], i)) {
                    return 0;
                }
            }
            if (has(below[one], other)) {
                return 1;
            }
            return has(below[other], one) ? -1 : 0;
        }

        /** What is lost, if a STROKE comes next when a set stands already. */
        private int lossOf(int stroke, int set) {
            int lacking = below[stroke] & ~set;
            int sum = 0;
            for (int i = 0; i < MOST_STROKES && lacking >> i != 0; i++) {
                if (has(lacking, i)) {
                    sum += loss[stroke * MOST_STROKES + i];
                }
            }
            return sum;
        }

        private void findLosses(Wall wall) {
            findBelow(wall);
            for (int i = 0; i < loss.length; i++) {
                loss[i] = 0;
            }
            for (int i = 0; i < wall.lookCount; i++) {
                loss[wall.uppers[i] * MOST_STROKES + wall.lowers[i]] += wall.weightOf(i);
            }
        }

        /** fewest[set]: the least that is lost behind it, when a set stands already. */
        void findBestOrder(Wall wall) {
            findLosses(wall);
            int n = wall.strokeCount;
            int all = allOf(wall);
            fewest[all] = 0;
            for (int set = all - 1; set >= 0; set--) {
                fewest[set] = MANY;
                for (int i = 0; i < n; i++) {
                    if (!has(set, i)) {
                        fewest[set] = Math.min(fewest[set], lossOf(i, set) + fewest[set | 1 << i]);
                    }
                }
            }
            int set = 0;
            for (int i = 0; i < n; i++) {
                bestOrder[i] = firstOfBest(set, n);
                set |= 1 << bestOrder[i];
            }
        }

        private int firstOfBest(int set, int n) {
            for (int i = 0; i < n; i++) {
                if (!has(set, i) && lossOf(i, set) + fewest[set | 1 << i] == fewest[set]) {
                    return i;
                }
            }
            return 0;
        }

        /** After findBestOrder(). */
        int leastLoss() {
            return fewest[0];
        }

        /** After findBestOrder(). */
        int looksNotHeld(Wall wall) {
            int not = 0;
            int ahead = 0;
            for (int i = 0; i < wall.strokeCount; i++) {
                for (int k = 0; k < wall.lookCount; k++) {
                    if (wall.uppers[k] == bestOrder[i] && !has(ahead, wall.lowers[k])) {
                        not |= 1 << k;
                    }
                }
                ahead |= 1 << bestOrder[i];
            }
            return not;
        }

        private void findBeasts(Wall wall) {
            for (int i = 0; i < wall.strokeCount; i++) {
                friends[i] = 0;
                for (int k = 0; k < wall.strokeCount; k++) {
                    if (i != k && wall.twoJoin(i, k)) {
                        friends[i] |= 1 << k;
                    }
                }
            }
            int all = allOf(wall);
            beast[0] = true;
            for (int set = 1; set <= all; set++) {
                int rest = set & set - 1;
                beast[set] = beast[rest] && (rest & ~friends[lowestOf(set)]) == 0;
            }
        }

        /** Of a set that is not empty. */
        private static int lowestOf(int set) {
            for (int i = 0; i < MOST_STROKES; i++) {
                if (has(set, i)) {
                    return i;
                }
            }
            return 0;
        }

        /** The BEAST of a set's lowest STROKE is tried in all ways, so that each parting comes once. */
        void findJoinings(Wall wall) {
            findBeasts(wall);
            int all = allOf(wall);
            ways[0] = 1;
            fewest[0] = 0;
            for (int set = 1; set <= all; set++) {
                ways[set] = 0;
                fewest[set] = MANY;
                int lowest = lowestOf(set);
                int near = set & friends[lowest];
                int part = near;
                // near has so many sets in it; less 1 and cut to near goes through them all.
                for (int left = 1 << Integer.bitCount(near); left > 0; left--) {
                    if (beast[part]) {
                        int rest = set & ~(part | 1 << lowest);
                        ways[set] += ways[rest];
                        fewest[set] = Math.min(fewest[set], fewest[rest] + 1);
                    }
                    part = part - 1 & near;
                }
            }
        }

        /** After findJoinings(). */
        int joiningCount(Wall wall) {
            return ways[allOf(wall)];
        }

        /** After findJoinings(). */
        int fewestBeasts(Wall wall) {
            return fewest[allOf(wall)];
        }

        /**
         * fewest[set]: how few sets come behind it, when a set stands already. To take all that are
         * ready of one STUFF is never worse than to take some of them: what comes behind stays
         * allowed. False: no row holds all LOOKS.
         */
        boolean findTimes(Wall wall) {
            findBelow(wall);
            findAlike(wall);
            int all = allOf(wall);
            fewest[all] = 0;
            for (int set = all - 1; set >= 0; set--) {
                int ready = readyAfter(set, wall.strokeCount);
                fewest[set] = MANY;
                for (int i = 0; i < STUFFS; i++) {
                    int taken = ready & alike[i];
                    if (taken != 0) {
                        fewest[set] = Math.min(fewest[set], fewest[set | taken] + 1);
                    }
                }
            }
            return fewest[0] < MANY;
        }

        private void findAlike(Wall wall) {
            for (int i = 0; i < STUFFS; i++) {
                alike[i] = 0;
            }
            for (int i = 0; i < wall.strokeCount; i++) {
                alike[wall.strokes[i].stuff()] |= 1 << i;
            }
        }

        /** After findTimes(). */
        int fewestTimes() {
            return fewest[0];
        }

        /** After findTimes(). */
        int firstTime(Wall wall) {
            int ready = readyAfter(0, wall.strokeCount);
            int all = allOf(wall);
            for (int set = 1; set <= all; set++) {
                if ((set & ~ready) == 0 && fewest[set] + 1 == fewest[0] && areAlike(set)) {
                    return set;
                }
            }
            return 0;
        }

        private boolean areAlike(int set) {
            for (int i = 0; i < STUFFS; i++) {
                if ((set & ~alike[i]) == 0) {
                    return true;
                }
            }
            return false;
        }
    }

    // ---- years

    /** SPANS by what was told and by what lies on what. */
    static final class Spans {
        final int[] least;
        final int[] greatest;
        int nextStroke;
        int nextWorst;
        private final int[] early;
        private final int[] late;
        /** The SPANS as they are without a TEST. */
        private final int[] firstLeast;
        private final int[] firstGreatest;

        Spans() {
            least = new int[MOST_STROKES];
            greatest = new int[MOST_STROKES];
            early = new int[MOST_STROKES];
            late = new int[MOST_STROKES];
            firstLeast = new int[MOST_STROKES];
            firstGreatest = new int[MOST_STROKES];
        }

        void load(Wall wall) {
            for (int i = 0; i < wall.strokeCount; i++) {
                early[i] = wall.earlyOf(i);
                late[i] = wall.lateOf(i);
            }
        }

        /** After load(): finds least and greatest. False: there are no SPANS. */
        boolean settle(Wall wall) {
            for (int i = 0; i < wall.strokeCount; i++) {
                least[i] = early[i];
                greatest[i] = late[i];
            }
            if (!pushUp(wall)) {
                return false;
            }
            for (int i = 0; i < wall.strokeCount; i++) {
                if (least[i] > late[i]) {
                    return false;
                }
            }
            pushDown(wall);
            return true;
        }

        /** False: LOOKS go round, as the last of n goes over n STROKES still moves one. */
        private boolean pushUp(Wall wall) {
            boolean moved = wall.lookCount > 0;
            for (int round = 0; round < wall.strokeCount && moved; round++) {
                moved = false;
                for (int i = 0; i < wall.lookCount; i++) {
                    int one = wall.uppers[i];
                    int year = least[wall.lowers[i]] + 1;
                    if (least[one] < year) {
                        least[one] = year;
                        moved = true;
                    }
                }
            }
            return !moved;
        }

        private void pushDown(Wall wall) {
            boolean moved = true;
            for (int round = 0; round < wall.strokeCount && moved; round++) {
                moved = false;
                for (int i = 0; i < wall.lookCount; i++) {
                    int other = wall.lowers[i];
                    int year = greatest[wall.uppers[i]] - 1;
                    if (greatest[other] > year) {
                        greatest[other] = year;
                        moved = true;
                    }
                }
            }
        }

        /** After load(): WIDTH by a TEST; -1: there are no SPANS then. */
        int widthByTest(Wall wall, int stroke, int year) {
            int wasEarly = early[stroke];
            int wasLate = late[stroke];
            early[stroke] = year;
            late[stroke] = year;
            int width = settle(wall) ? widthOf(wall.strokeCount) : -1;
            early[stroke] = wasEarly;
            late[stroke] = wasLate;
            return width;
        }

        private int widthOf(int n) {
            int width = 0;
            for (int i = 0; i < n; i++) {
                width += greatest[i] - least[i];
            }
            return width;
        }

        /** After load(): finds nextStroke and nextWorst. False: there are no SPANS. */
        boolean findNext(Wall wall) {
            if (!settle(wall)) {
                return false;
            }
            for (int i = 0; i < wall.strokeCount; i++) {
                firstLeast[i] = least[i];
                firstGreatest[i] = greatest[i];
            }
            nextStroke = 0;
            nextWorst = worstOf(wall, 0);
            for (int i = 1; i < wall.strokeCount; i++) {
                int worst = worstOf(wall, i);
                if (worst < nextWorst) {
                    nextStroke = i;
                    nextWorst = worst;
                }
            }
            return true;
        }

        private int worstOf(Wall wall, int stroke) {
            int first = firstLeast[stroke];
            int last = firstGreatest[stroke];
            int worst = widthByTest(wall, stroke, first);
            worst = Math.max(worst, widthByTest(wall, stroke, (first + last) / 2));
            return Math.max(worst, widthByTest(wall, stroke, last));
        }
    }
}
