import java.util.ArrayList;
import java.util.List;

/**
 * Two objects made by the same calls; one of them is given a refused call more. All that calls can
 * tell of both is compared then: nothing but what told() tells may have changed.
 */
final class Twins {
    /** One act on an object. */
    interface Act {
        int on(HandOverHorse x);
    }

    /** How an object is made. */
    interface Make {
        HandOverHorse made();
    }

    private final Due due;
    private final Make make;

    Twins(Due due, Make make) {
        this.due = due;
        this.make = make;
    }

    /** The call answers the ERROR LOW - k, told(k) tells one more, and nothing else has changed. */
    void refuse(String call, int error, Act act) {
        HandOverHorse x = make.made();
        HandOverHorse twin = make.made();
        due.is(call, act.on(x), error);
        for (int k = 1; k <= 5; k++) {
            int more = error == Due.LOW - k ? 1 : 0;
            due.is("told(" + k + ") behind " + call, x.told(k), twin.told(k) + more);
        }
        compare(call, x, twin);
    }

    /** The call answers so, is no ERROR, and nothing at all has changed. */
    void ask(String call, int answer, Act act) {
        HandOverHorse x = make.made();
        HandOverHorse twin = make.made();
        due.is(call, act.on(x), answer);
        for (int k = 1; k <= 5; k++) {
            due.is("told(" + k + ") behind " + call, x.told(k), twin.told(k));
        }
        compare(call, x, twin);
    }

    private void compare(String call, HandOverHorse x, HandOverHorse twin) {
        List<Integer> seen = new ArrayList<>();
        List<Integer> seenOfTwin = new ArrayList<>();
        look(x, seen);
        look(twin, seenOfTwin);
        due.is("how much is seen behind " + call, seen.size(), seenOfTwin.size());
        for (int i = 0; i < Math.min(seen.size(), seenOfTwin.size()); i++) {
            due.is("look " + i + " behind " + call, seen.get(i), seenOfTwin.get(i));
        }
    }

    /** As many calls as tell all of an object; those that change it come last. */
    private static void look(HandOverHorse x, List<Integer> seen) {
        lookAtWall(x, seen);
        lookAtFinds(x, seen);
        lookAtWaiting(x, seen);
        lookAtTexts(x, seen);
        lookAtSheets(x, seen);
        lookAtImage(x, seen);
    }

    private static void lookAtWall(HandOverHorse x, List<Integer> seen) {
        for (int what = 0; what < 6; what++) {
            seen.add(x.count(what));
        }
        for (int s = 0; s < x.count(0); s++) {
            for (int what = 0; what < 9; what++) {
                seen.add(x.ofStroke(s, what));
            }
        }
        for (int l = 0; l < x.count(1); l++) {
            for (int what = 0; what < 3; what++) {
                seen.add(x.ofLook(l, what));
            }
        }
        for (int i = 0; i < x.count(4); i++) {
            seen.add(x.trace(i));
        }
    }

    private static void lookAtFinds(HandOverHorse x, List<Integer> seen) {
        seen.add(x.orders());
        seen.add(x.wrong(0));
        seen.add(x.wrong(1));
        seen.add(x.best(0));
        seen.add(x.span(0, 0));
        seen.add(x.span(0, 1));
        seen.add(x.next(0));
        seen.add(x.next(1));
        seen.add(x.joinings(0));
        seen.add(x.joinings(1));
        seen.add(x.times(0));
        seen.add(x.times(1));
        seen.add(x.hand(50));
        seen.add(x.voice(0, 3, 5));
    }

    /** What waits, by check() of a chain, so that only one row of numbers is an ORDER. */
    private static void lookAtWaiting(HandOverHorse x, List<Integer> seen) {
        seen.add(x.check());
        seen.add(x.count(3));
    }

    private static void lookAtTexts(HandOverHorse x, List<Integer> seen) {
        seen.add(x.law(0, 1, 20, 300, 400));
        seen.add(x.law(1, 1, 20, 300, 400));
        seen.add(x.text(0));
        seen.add(x.law(0, 1, 20, 300, 400));
    }

    /** Numbers of SHEETS, by judge() with the YEARS that a full object was made with. */
    private static void lookAtSheets(HandOverHorse x, List<Integer> seen) {
        Due.read(x, 0, "0");
        for (int l = x.count(1); l > 0; l--) {
            x.forget();
        }
        int strokes = x.count(0);
        for (int s = 0; s < strokes; s++) {
            x.become(s, 0);
            Walls.within(x, s, yearAt(s), yearAt(s));
        }
        for (int sheet = 0; sheet < 4; sheet++) {
            seen.add(x.judge(sheet));
            for (int place = 8; place < 12; place++) {
                seen.add(x.move(sheet, place, sheet, 0, 1));
                Walls.within(x, 0, yearAt(place), yearAt(place));
                seen.add(x.judge(sheet));
            }
            Walls.within(x, 0, yearAt(0), yearAt(0));
            seen.add(x.move(sheet, 0, 2, 0, 0));
            seen.add(x.put(sheet, 0, 65536 + 256 + yearAt(0)));
            seen.add(x.judge(sheet));
        }
    }

    static int yearAt(int place) {
        return 5 + 3 * place;
    }

    private static void lookAtImage(HandOverHorse x, List<Integer> seen) {
        seen.add(x.restore());
        for (int what = 0; what < 6; what++) {
            seen.add(x.count(what));
        }
        for (int s = 0; s < x.count(0); s++) {
            seen.add(x.ofStroke(s, 0));
            seen.add(x.ofStroke(s, 3));
            seen.add(x.ofStroke(s, 7));
        }
        for (int l = 0; l < x.count(1); l++) {
            seen.add(x.ofLook(l, 2));
        }
        seen.add(x.check());
        seen.add(x.law(0, 1, 20, 300, 400));
        seen.add(x.image());
    }
}
