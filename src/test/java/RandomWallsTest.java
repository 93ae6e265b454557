import java.util.Random;

/** Walls by draws from fixed seeds; all that is found on them is compared with what Naive finds. */
public final class RandomWallsTest {
    private final Due due;
    private final Random draws;
    private final HandOverHorse x = new HandOverHorse();
    private final Naive naive = new Naive();
    private final String wall;
    private final int n;

    private RandomWallsTest(Due due, int seed, int n) {
        this.due = due;
        this.draws = new Random(seed);
        this.wall = "wall " + seed + ", ";
        this.n = n;
    }

    public static void main(String[] args) {
        Due due = new Due("RandomWallsTest");
        for (int seed = 0; seed < 1200; seed++) {
            new RandomWallsTest(due, seed, seed % 7).compare();
        }
        for (int seed = 1200; seed < 1260; seed++) {
            new RandomWallsTest(due, seed, 7 + seed % 2).compare();
        }
        due.end();
    }

    private void compare() {
        if (draws.nextInt(3) == 0) {
            readTexts();
        }
        makeStrokes();
        makeLooks();
        askOrders();
        askYears();
        askBeasts();
    }

    private void readTexts() {
        String[] dates = {"c-h/2", "m*k", "(k>3)*100-c", "0-h*5", "c*c-999", "!m*50+k%3"};
        String[] doubts = {"w-c/9", "w*(k>2)", "5", "w*w/(c+1)", "w<50", "0", "w%3|k=1"};
        read(0, dates[draws.nextInt(dates.length)]);
        read(1, doubts[draws.nextInt(doubts.length)]);
    }

    private void read(int use, String text) {
        Due.feed(x, text);
        for (int i = 0; i < text.length(); i++) {
            naive.feed(text.charAt(i), 1);
        }
        due.is(wall + "text(" + use + ") of " + text, x.text(use), naive.text(use));
    }

    private void makeStrokes() {
        int kinds = draws.nextInt(3);
        int room = draws.nextBoolean() ? 36 : 9;
        int hands = draws.nextBoolean() ? 100 : 25;
        int years = draws.nextBoolean() ? 10000 : 30;
        for (int i = 0; i < n; i++) {
            int kind = kinds == 0 ? draws.nextInt(7) : kinds == 1 ? 1 + draws.nextInt(2) * 3 : draws.nextInt(2);
            int km = kind * 10 + draws.nextInt(10);
            int cell = draws.nextInt(room);
            int hand = draws.nextInt(hands);
            due.is(wall + "stroke(" + km + ", " + cell + ", " + hand + ")", x.stroke(km, cell, hand), naive.stroke(km, cell, hand));
            change(i, 6, draws.nextInt(100));
            if (draws.nextBoolean()) {
                int from = draws.nextInt(years);
                change(i, 4, from);
                change(i, 5, Math.min(9999, from + draws.nextInt(years) / 2 + 8));
            }
        }
    }

    private void change(int stroke, int what, int v) {
        due.is(wall + "change(" + stroke + ", " + what + ", " + v + ")", x.change(stroke, what, v), naive.change(stroke, what, v));
    }

    private void makeLooks() {
        if (n < 2) {
            return;
        }
        boolean holding = draws.nextInt(3) != 0;
        int twist = draws.nextInt(n);
        for (int i = draws.nextInt(13); i > 0; i--) {
            int a = draws.nextInt(n);
            int b = (a + 1 + draws.nextInt(n - 1)) % n;
            if (holding && (a + twist) % n < (b + twist) % n) {
                int c = a;
                a = b;
                b = c;
            }
            int seen = draws.nextBoolean() ? 1 + draws.nextInt(99) : 1 + draws.nextInt(2);
            due.is(wall + "over(" + a + ", " + b + ", " + seen + ")", x.over(a, b, seen), naive.over(a, b, seen));
        }
    }

    private void askOrders() {
        due.is(wall + "orders()", x.orders(), naive.orders());
        for (int what = 0; what < 2; what++) {
            due.is(wall + "wrong(" + what + ")", x.wrong(what), naive.wrong(what));
        }
        for (int a = 0; a < n; a++) {
            if (n < 7 || a % 3 == 0) {
                due.is(wall + "best(" + a + ")", x.best(a), naive.best(a));
            }
            for (int b = 0; b < n; b++) {
                if (n < 7 || draws.nextInt(8) == 0) {
                    due.is(wall + "sure(" + a + ", " + b + ")", x.sure(a, b), naive.sure(a, b));
                }
            }
        }
    }

    private void askYears() {
        for (int a = 0; a < n; a++) {
            due.is(wall + "span(" + a + ", 0)", x.span(a, 0), naive.span(a, 0));
            due.is(wall + "span(" + a + ", 1)", x.span(a, 1), naive.span(a, 1));
            int year = draws.nextInt(10000);
            due.is(wall + "test(" + a + ", " + year + ")", x.test(a, year), naive.test(a, year));
            int near = Math.min(9999, naive.yearNear(a) + draws.nextInt(20));
            due.is(wall + "test(" + a + ", " + near + ")", x.test(a, near), naive.test(a, near));
        }
        due.is(wall + "next(0)", x.next(0), naive.next(0));
        due.is(wall + "next(1)", x.next(1), naive.next(1));
    }

    private void askBeasts() {
        for (int a = 0; a < n; a++) {
            for (int b = 0; b < n; b++) {
                due.is(wall + "join(" + a + ", " + b + ")", x.join(a, b), naive.join(a, b));
            }
        }
        for (int what = 0; what < 2; what++) {
            due.is(wall + "joinings(" + what + ")", x.joinings(what), naive.joinings(what));
            due.is(wall + "times(" + what + ")", x.times(what), naive.times(what));
        }
        for (int i = 0; i < 10; i++) {
            int high = draws.nextInt(100);
            due.is(wall + "hand(" + high + ")", x.hand(high), naive.hand(high));
            int cell = draws.nextInt(36);
            int bright = draws.nextInt(11);
            due.is(wall + "lamp(" + cell + ", " + bright + ")", x.lamp(cell, bright), naive.lamp(cell, bright));
        }
        for (int k = 1; k <= 5; k++) {
            due.is(wall + "told(" + k + ")", x.told(k), naive.told(k));
        }
    }
}
