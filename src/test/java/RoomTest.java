import java.lang.management.ManagementFactory;

/** Rule 12 of ../shared/LANGUAGE.md: what calls make is kept small, as README.md says. */
public final class RoomTest {
    private static final Due DUE = new Due("RoomTest");
    private static final int MANY = 20000;
    private static final com.sun.management.ThreadMXBean ROOM =
            (com.sun.management.ThreadMXBean) ManagementFactory.getThreadMXBean();

    /** One act on an object. */
    private interface Act {
        int on(HandOverHorse x);
    }

    public static void main(String[] args) {
        finds();
        changes();
        kinds();
        anObject();
        DUE.end();
    }

    private static HandOverHorse wall() {
        HandOverHorse x = Walls.of(3, 16, 25, 32, 49, 51, 68, 0);
        for (int i = 0; i < 8; i++) {
            x.change(i, 4, 20 * i);
            x.change(i, 5, 9000);
        }
        for (int i = 0; i < 12; i++) {
            x.over(i % 6 + 1, i % 6, 40 + i);
        }
        Due.read(x, 0, "(c+m*3)/!k-h%7");
        Due.read(x, 1, "w+k|c<3");
        Walls.row(x, 0, 16, 1, 2, 3, 4, 5, 6, 7, 8);
        Walls.row(x, 1, 16, 1, 0, 50);
        x.image();
        return x;
    }

    /** The bytes that the act takes, made many times. */
    private static long taken(Act act) {
        HandOverHorse x = wall();
        for (int i = 0; i < 200; i++) {
            act.on(x);
        }
        long ahead = ROOM.getCurrentThreadAllocatedBytes();
        for (int i = 0; i < MANY; i++) {
            act.on(x);
        }
        return ROOM.getCurrentThreadAllocatedBytes() - ahead;
    }

    /** An object or a row takes 16 bytes at least; one in each tenth call is not the class's. */
    private static void makesNothing(String call, Act act) {
        long bytes = taken(act);
        DUE.that(call + " makes nothing, but took " + bytes + " bytes in " + MANY, bytes < MANY * 16 / 10);
    }

    private static void finds() {
        makesNothing("ofStroke", x -> x.ofStroke(5, 8));
        makesNothing("as", x -> x.as(4, 1));
        makesNothing("ofLook", x -> x.ofLook(3, 3));
        makesNothing("law", x -> x.law(0, 1, 2, 3, 4));
        makesNothing("span", x -> x.span(1, 0));
        makesNothing("test", x -> x.test(1, 100));
        makesNothing("join", x -> x.join(3, 6));
        makesNothing("lamp", x -> x.lamp(3, 3));
        makesNothing("hand", x -> x.hand(3));
        makesNothing("voice", x -> x.voice(6, 3, 5));
        makesNothing("trace", x -> x.trace(0));
        makesNothing("judge", x -> x.judge(0));
        makesNothing("count", x -> x.count(5));
        makesNothing("told", x -> x.told(9));
        makesNothing("next", x -> x.next(1));
        makesNothing("orders", x -> x.orders());
        makesNothing("sure", x -> x.sure(0, 3));
        makesNothing("wrong", x -> x.wrong(1));
        makesNothing("best", x -> x.best(3));
        makesNothing("joinings", x -> x.joinings(1));
        makesNothing("times", x -> x.times(1));
    }

    private static void changes() {
        makesNothing("change", x -> x.change(1, 4, 30));
        makesNothing("become, of one KIND", x -> x.become(1, 15));
        makesNothing("over", x -> x.over(1, 0, 5));
        makesNothing("over, forget", x -> x.forget() + x.over(1, 0, 5));
        makesNothing("see", x -> x.see(0, 7));
        makesNothing("feed, text", x -> x.feed(0x322f682d63L, 5) + x.text(0));
        makesNothing("feed, text with a FAULT", x -> x.feed(0x2b632828L, 4) + x.text(1));
        makesNothing("again", x -> x.again());
        makesNothing("seed", x -> x.seed(7));
        makesNothing("sheet", x -> x.sheet(2, 32, 40));
        makesNothing("put", x -> x.put(0, 1, 5));
        makesNothing("move", x -> x.move(0, 0, 1, 0, 2));
        makesNothing("looks", x -> x.forget() + x.looks(1));
        makesNothing("image", x -> x.image());
        makesNothing("restore", x -> x.restore());
        makesNothing("tell, check", x -> x.tell(3) + x.check());
    }

    private static void kinds() {
        long bytes = taken(x -> x.become(1, x.ofStroke(1, 0) == 1 ? 20 : 10));
        DUE.that("become makes one STROKE: " + bytes + " bytes in " + MANY, bytes < MANY * 64L);
        long all = taken(x -> {
            x.become(2, x.ofStroke(2, 0) == 1 ? 20 : 10);
            return x.image() + x.restore();
        });
        DUE.that("image makes those that changed: " + all + " bytes in " + MANY, all < MANY * 128L);
    }

    private static void anObject() {
        long ahead = ROOM.getCurrentThreadAllocatedBytes();
        for (int i = 0; i < 100; i++) {
            new HandOverHorse();
        }
        long bytes = (ROOM.getCurrentThreadAllocatedBytes() - ahead) / 100;
        DUE.that("an object takes " + bytes + " bytes", bytes < 20000);
    }
}
