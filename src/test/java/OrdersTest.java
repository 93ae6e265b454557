/** Promises 14 to 17: orders, sure, wrong, best. */
public final class OrdersTest {
    private static final Due DUE = new Due("OrdersTest");

    public static void main(String[] args) {
        orders();
        sure();
        wrong();
        best();
        DUE.end();
    }

    private static HandOverHorse plain(int n) {
        HandOverHorse x = new HandOverHorse();
        for (int i = 0; i < n; i++) {
            x.stroke(0, 0, 0);
        }
        return x;
    }

    private static void orders() {
        int[] rows = {1, 1, 2, 6, 24, 120, 720, 5040, 40320};
        for (int n = 0; n <= 8; n++) {
            DUE.is("orders() of " + n, plain(n).orders(), rows[n]);
        }
        HandOverHorse x = plain(4);
        x.over(1, 0, 5);
        DUE.is("orders() with one LOOK", x.orders(), 12);
        x.over(1, 0, 9);
        DUE.is("the same LOOK twice", x.orders(), 12);
        x.over(3, 2, 5);
        DUE.is("orders() with two", x.orders(), 6);
        x.over(2, 1, 5);
        DUE.is("orders() of a chain", x.orders(), 1);
        x.over(0, 3, 5);
        DUE.is("orders() of a ring", x.orders(), 0);
    }

    private static void sure() {
        HandOverHorse x = plain(4);
        x.over(1, 0, 5);
        x.over(2, 1, 5);
        DUE.is("sure(1, 0)", x.sure(1, 0), 1);
        DUE.is("sure(2, 0), over one between", x.sure(2, 0), 1);
        DUE.is("sure(0, 2)", x.sure(0, 2), -1);
        DUE.is("sure(0, 3)", x.sure(0, 3), 0);
        DUE.is("sure(0, 0)", x.sure(0, 0), Due.BEYOND);
        DUE.is("sure(0, 4)", x.sure(0, 4), Due.BEYOND);
        DUE.is("sure(-1, 0)", x.sure(-1, 0), Due.BEYOND);
        x.over(0, 1, 5);
        DUE.is("sure(2, 0) without any order", x.sure(2, 0), 0);
        DUE.is("sure(0, 2) without any order", x.sure(0, 2), 0);
    }

    private static void wrong() {
        HandOverHorse x = plain(3);
        DUE.is("wrong(2)", x.wrong(2), Due.BEYOND);
        DUE.is("wrong(-1)", x.wrong(-1), Due.BEYOND);
        DUE.is("wrong(0) without LOOKS", x.wrong(0), 0);
        DUE.is("wrong(1) without LOOKS", x.wrong(1), 0);
        x.over(0, 1, 30);
        x.over(1, 0, 20);
        x.over(1, 0, 20);
        DUE.is("wrong(0): two weigh more than one", x.wrong(0), 30);
        DUE.is("wrong(1)", x.wrong(1), 1);
        x.see(0, 40);
        DUE.is("wrong(0): like sums", x.wrong(0), 40);
        DUE.is("wrong(1): by the first order, 0 1 2", x.wrong(1), 1);
        x.see(0, 41);
        DUE.is("wrong(1): the others then", x.wrong(1), 6);
        Due.read(x, 1, "0");
        DUE.is("wrong(0): WEIGHTS of 0", x.wrong(0), 0);
        DUE.is("wrong(1): what weighs 0 doesn't hold either", x.wrong(1), 1);
        Due.read(x, 1, "999");
        x.over(0, 2, 1);
        x.over(2, 0, 1);
        DUE.is("wrong(0): sums above 999", x.wrong(0), 1998);
        DUE.is("wrong(1) of 0 1 2", x.wrong(1), 1 | 8);
    }

    private static void best() {
        HandOverHorse x = plain(4);
        for (int i = 0; i < 4; i++) {
            DUE.is("best(" + i + ") without LOOKS", x.best(i), i);
        }
        DUE.is("best(4)", x.best(4), Due.BEYOND);
        DUE.is("best(-1)", x.best(-1), Due.BEYOND);
        x.over(0, 3, 50);
        int[] order = {1, 2, 3, 0};
        for (int i = 0; i < 4; i++) {
            DUE.is("best(" + i + ") with 0 over 3", x.best(i), order[i]);
        }
        x.over(3, 2, 50);
        x.over(2, 0, 49);
        int[] ring = {1, 2, 3, 0};
        for (int i = 0; i < 4; i++) {
            DUE.is("best(" + i + ") of a ring", x.best(i), ring[i]);
        }
        x.see(2, 51);
        int[] tied = {0, 1, 2, 3};
        for (int i = 0; i < 4; i++) {
            DUE.is("best(" + i + ") of like ones, the first", x.best(i), tied[i]);
        }
        DUE.is("best(0) without STROKES", plain(0).best(0), Due.BEYOND);
    }
}
