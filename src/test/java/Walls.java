/** Walls that tests begin with. */
final class Walls {
    private Walls() {
    }

    /** n STROKES of the KIND STROKE, m 0, all in CELL 0 by HANDS of 0. */
    static HandOverHorse plain(int n) {
        HandOverHorse x = new HandOverHorse();
        for (int i = 0; i < n; i++) {
            x.stroke(0, 0, 0);
        }
        return x;
    }

    /** A STROKE of each km, all in CELL 0 by HANDS of 0. */
    static HandOverHorse of(int... kms) {
        HandOverHorse x = new HandOverHorse();
        for (int km : kms) {
            x.stroke(km, 0, 0);
        }
        return x;
    }

    /** A STROKE for each FROM and TO. */
    static HandOverHorse told(int[] froms, int[] tos) {
        HandOverHorse x = plain(froms.length);
        for (int i = 0; i < froms.length; i++) {
            within(x, i, froms[i], tos[i]);
        }
        return x;
    }

    static void within(HandOverHorse x, int stroke, int from, int to) {
        x.change(stroke, 4, from);
        x.change(stroke, 5, to);
    }

    /** n STROKES, each over the one ahead of it: only the ORDER 0, 1, .. holds. */
    static HandOverHorse chain(int n) {
        HandOverHorse x = plain(n);
        for (int i = 1; i < n; i++) {
            x.over(i, i - 1, 50);
        }
        return x;
    }

    static void row(HandOverHorse x, int sheet, int bits, int... numbers) {
        x.sheet(sheet, bits, numbers.length);
        for (int i = 0; i < numbers.length; i++) {
            x.put(sheet, i, numbers[i]);
        }
    }
}
