/** Promises 1 to 6: a new object, stroke, ofStroke, change, become, as. */
public final class StrokesTest {
    private static final Due DUE = new Due("StrokesTest");

    public static void main(String[] args) {
        newObject();
        stroke();
        ofStroke();
        earlyAndLate();
        change();
        become();
        as();
        DUE.end();
    }

    private static void newObject() {
        HandOverHorse x = new HandOverHorse();
        for (int what = 0; what < 5; what++) {
            DUE.is("new: count(" + what + ")", x.count(what), 0);
        }
        DUE.is("new: z", x.count(5), 1);
        for (int k = 1; k <= 5; k++) {
            DUE.is("new: told(" + k + ")", x.told(k), 0);
        }
        DUE.is("new: restore()", x.restore(), Due.NONE);
        DUE.is("new: trace(0)", x.trace(0), Due.NONE);
        for (int s = 0; s < 4; s++) {
            DUE.is("new: put on sheet " + s, x.put(s, 0, 0), Due.NONE);
        }
        DUE.is("new: law(0)", x.law(0, 5, 5, 5, 5), 0);
        DUE.is("new: law(1)", x.law(1, 5, 6, 7, 8), 5);
        DUE.is("new: ofStroke", x.ofStroke(0, 0), Due.BEYOND);
        DUE.is("new: ofLook", x.ofLook(0, 0), Due.BEYOND);
        DUE.is("new: forget", x.forget(), Due.STATE);
    }

    private static void stroke() {
        HandOverHorse x = new HandOverHorse();
        DUE.is("stroke(-1, 0, 0)", x.stroke(-1, 0, 0), Due.BEYOND);
        DUE.is("stroke(70, 0, 0)", x.stroke(70, 0, 0), Due.BEYOND);
        DUE.is("stroke(0, -1, 0)", x.stroke(0, -1, 0), Due.BEYOND);
        DUE.is("stroke(0, 36, 0)", x.stroke(0, 36, 0), Due.BEYOND);
        DUE.is("stroke(0, 0, -1)", x.stroke(0, 0, -1), Due.BEYOND);
        DUE.is("stroke(0, 0, 100)", x.stroke(0, 0, 100), Due.BEYOND);
        DUE.is("count(0) behind what is refused", x.count(0), 0);
        DUE.is("stroke(69, 35, 99)", x.stroke(69, 35, 99), 0);
        DUE.is("stroke(0, 0, 0)", x.stroke(0, 0, 0), 1);
        for (int i = 2; i < 8; i++) {
            DUE.is("stroke " + i, x.stroke(10 * (i - 1), i, i), i);
        }
        DUE.is("a ninth", x.stroke(0, 0, 0), Due.FULL);
        DUE.is("a ninth that is beyond", x.stroke(0, 0, 100), Due.BEYOND);
        DUE.is("count(0)", x.count(0), 8);
        DUE.is("told(4)", x.told(4), 1);
    }

    private static void ofStroke() {
        HandOverHorse x = new HandOverHorse();
        x.stroke(47, 22, 63);
        int[] parts = {4, 7, 22, 63, 0, 9999, 0, 57, 9992, 1};
        for (int what = 0; what < 10; what++) {
            DUE.is("ofStroke(0, " + what + ")", x.ofStroke(0, what), parts[what]);
        }
        DUE.is("ofStroke(0, 10)", x.ofStroke(0, 10), Due.BEYOND);
        DUE.is("ofStroke(0, -1)", x.ofStroke(0, -1), Due.BEYOND);
        DUE.is("ofStroke(1, 0)", x.ofStroke(1, 0), Due.BEYOND);
        DUE.is("ofStroke(-1, 0)", x.ofStroke(-1, 0), Due.BEYOND);
        int[] stuffs = {0, 1, 2, 3, 1, 2, 3};
        for (int kind = 0; kind < 7; kind++) {
            x.become(0, kind * 10);
            DUE.is("STUFF of KIND " + kind, x.ofStroke(0, 9), stuffs[kind]);
        }
    }

    private static void earlyAndLate() {
        HandOverHorse x = new HandOverHorse();
        x.stroke(0, 0, 30);
        x.change(0, 4, 6000);
        x.change(0, 5, 7000);
        x.change(0, 6, 40);
        int[] early = {6000, 6007, 6000, 5930, 6057, 6040, 5930};
        int[] late = {7000, 7000, 6960, 7000, 6993, 6920, 9999};
        for (int kind = 0; kind < 7; kind++) {
            x.become(0, kind * 10 + 7);
            DUE.is("EARLY of KIND " + kind, x.ofStroke(0, 7), early[kind]);
            DUE.is("LATE of KIND " + kind, x.ofStroke(0, 8), late[kind]);
        }
        x.become(0, 69);
        x.change(0, 4, 5000);
        DUE.is("EARLY of FORGED is 5000 at least", x.ofStroke(0, 7), 5000);
        DUE.is("DATES come", Due.read(x, 0, "0-c-m-k-h"), 1);
        DUE.is("EARLY with DATES, behind 5000 at least", x.ofStroke(0, 7), 5000 - 40 - 9 - 6 - 30);
        DUE.is("LATE with DATES", x.ofStroke(0, 8), 9999 - 40 - 9 - 6 - 30);
        x.become(0, 33);
        x.change(0, 4, 10);
        DUE.is("EARLY is 0 at least", x.ofStroke(0, 7), 0);
        x.change(0, 5, 5);
        DUE.is("LATE is 0 at least", x.ofStroke(0, 8), 0);
        DUE.is("DATES once more", Due.read(x, 0, "9999"), 1);
        x.change(0, 4, 9999);
        x.change(0, 5, 9001);
        DUE.is("EARLY is 9999 at most", x.ofStroke(0, 7), 9999);
        DUE.is("LATE is 9999 at most", x.ofStroke(0, 8), 9999);
    }

    private static void change() {
        HandOverHorse x = new HandOverHorse();
        x.stroke(15, 7, 8);
        int[] most = {0, 0, 35, 99, 9999, 9999, 99};
        int[] first = {0, 0, 7, 8, 0, 9999, 0};
        for (int what = 2; what <= 6; what++) {
            DUE.is("change(0, " + what + ", -1)", x.change(0, what, -1), Due.BEYOND);
            DUE.is("change(0, " + what + ", most + 1)", x.change(0, what, most[what] + 1), Due.BEYOND);
            DUE.is("change(0, " + what + ", 0)", x.change(0, what, 0), first[what]);
            DUE.is("change(0, " + what + ", most)", x.change(0, what, most[what]), 0);
            DUE.is("ofStroke(0, " + what + ")", x.ofStroke(0, what), most[what]);
        }
        DUE.is("change(0, 1, 0)", x.change(0, 1, 0), Due.BEYOND);
        DUE.is("change(0, 0, 0)", x.change(0, 0, 0), Due.BEYOND);
        DUE.is("change(0, 7, 0)", x.change(0, 7, 0), Due.BEYOND);
        DUE.is("change(0, -1, 0)", x.change(0, -1, 0), Due.BEYOND);
        DUE.is("change(1, 2, 0)", x.change(1, 2, 0), Due.BEYOND);
        DUE.is("change(-1, 2, 0)", x.change(-1, 2, 0), Due.BEYOND);
        DUE.is("m stays", x.ofStroke(0, 1), 5);
        DUE.is("KIND stays", x.ofStroke(0, 0), 1);
    }

    private static void become() {
        HandOverHorse x = new HandOverHorse();
        x.stroke(15, 7, 8);
        x.stroke(25, 9, 10);
        x.change(0, 4, 11);
        x.change(0, 5, 12);
        x.change(0, 6, 13);
        DUE.is("become(0, 69)", x.become(0, 69), 1);
        int[] parts = {6, 9, 7, 8, 11, 12, 13};
        for (int what = 0; what < 7; what++) {
            DUE.is("behind become: ofStroke(0, " + what + ")", x.ofStroke(0, what), parts[what]);
        }
        DUE.is("the other stays", x.ofStroke(1, 0), 2);
        DUE.is("become(0, 70)", x.become(0, 70), Due.BEYOND);
        DUE.is("become(0, -1)", x.become(0, -1), Due.BEYOND);
        DUE.is("become(2, 0)", x.become(2, 0), Due.BEYOND);
        DUE.is("become(0, 62)", x.become(0, 62), 6);
        DUE.is("the same KIND, another m", x.ofStroke(0, 1), 2);
        DUE.is("become(0, 0)", x.become(0, 0), 6);
        DUE.is("its number stays", x.voice(1, 0, 0), 3);
    }

    private static void as() {
        HandOverHorse x = new HandOverHorse();
        String[] chains = {"0", "01", "02", "03", "014", "025", "036"};
        for (int kind = 0; kind < 7; kind++) {
            x.stroke(kind * 10 + kind + 1, 0, 0);
            for (int other = 0; other < 7; other++) {
                boolean is = chains[kind].indexOf('0' + other) >= 0;
                DUE.is("as(" + kind + ", " + other + ")", x.as(kind, other), is ? kind + 1 : Due.KIND);
            }
        }
        DUE.is("as(0, 7)", x.as(0, 7), Due.BEYOND);
        DUE.is("as(0, -1)", x.as(0, -1), Due.BEYOND);
        DUE.is("as(7, 0)", x.as(7, 0), Due.BEYOND);
        DUE.is("as(-1, 1)", x.as(-1, 1), Due.BEYOND);
    }
}
