import java.util.ArrayList;
import java.util.List;
import java.util.Random;

/**
 * What is found on a wall is the same whatever was asked ahead, on this wall or on another one that
 * an IMAGE brought: promises 14 to 25 tell nothing of what was asked ahead.
 */
public final class AskedInAnyRowTest {
    private static final Due DUE = new Due("AskedInAnyRowTest");

    /** What is asked; each ask has a name that is told if it fails. */
    private static final String[] NAMES = {
        "orders()", "sure(1, 0)", "wrong(0)", "wrong(1)", "best(0)", "best(2)", "span(0, 0)", "span(2, 1)",
        "test(1, 500)", "next(0)", "next(1)", "join(0, 1)", "joinings(0)", "joinings(1)", "times(0)", "times(1)",
        "lamp(0, 3)", "hand(5)"};

    public static void main(String[] args) {
        Random draws = new Random(5);
        for (int wall = 0; wall < 6; wall++) {
            int[] due = new int[NAMES.length];
            for (int i = 0; i < NAMES.length; i++) {
                due[i] = ask(made(wall), i);
            }
            for (int round = 0; round < 40; round++) {
                HandOverHorse x = made(wall);
                List<Integer> row = new ArrayList<>();
                for (int i = 0; i < NAMES.length; i++) {
                    row.add(i);
                }
                java.util.Collections.shuffle(row, draws);
                for (int i : row) {
                    DUE.is("wall " + wall + ": " + NAMES[i] + " behind others", ask(x, i), due[i]);
                }
            }
            behindAnotherWall(wall, due, draws);
        }
        DUE.end();
    }

    /** All is asked of another wall first; then this wall comes back from the IMAGE. */
    private static void behindAnotherWall(int wall, int[] due, Random draws) {
        for (int other = 0; other < 6; other++) {
            HandOverHorse x = made(wall);
            x.image();
            for (int i = x.count(1); i > 0; i--) {
                x.forget();
            }
            while (x.count(0) < 8) {
                x.stroke(draws.nextInt(70), draws.nextInt(36), draws.nextInt(20));
            }
            for (int i = 0; i < 8; i++) {
                x.become(i, draws.nextInt(70));
            }
            for (int i = 0; i < other * 2; i++) {
                x.over(i % 8, (i * 3 + 1) % 8, 1 + draws.nextInt(99));
            }
            for (int i = 0; i < NAMES.length; i++) {
                ask(x, i);
            }
            x.restore();
            for (int i = NAMES.length - 1; i >= 0; i--) {
                DUE.is("wall " + wall + ": " + NAMES[i] + " behind another wall", ask(x, i), due[i]);
            }
        }
    }

    private static int ask(HandOverHorse x, int i) {
        switch (i) {
            case 0: return x.orders();
            case 1: return x.sure(1, 0);
            case 2: return x.wrong(0);
            case 3: return x.wrong(1);
            case 4: return x.best(0);
            case 5: return x.best(2);
            case 6: return x.span(0, 0);
            case 7: return x.span(2, 1);
            case 8: return x.test(1, 500);
            case 9: return x.next(0);
            case 10: return x.next(1);
            case 11: return x.join(0, 1);
            case 12: return x.joinings(0);
            case 13: return x.joinings(1);
            case 14: return x.times(0);
            case 15: return x.times(1);
            case 16: return x.lamp(0, 3);
            default: return x.hand(5);
        }
    }

    private static HandOverHorse made(int wall) {
        HandOverHorse x = new HandOverHorse();
        int n = 3 + wall;
        for (int i = 0; i < n; i++) {
            x.stroke((wall * 13 + i * 27) % 70, (i * 5 + wall) % 12, (i * 4) % 19);
            x.change(i, 4, 100 * (i % 3));
            x.change(i, 5, 700 + 100 * (i % 4));
        }
        for (int i = 0; i < 2 * wall; i++) {
            x.over((i + 1) % n, wall == 4 ? i % n : i % n == n - 1 ? 1 : i % n, 1 + (i * 37) % 99);
        }
        return x;
    }
}
