import java.util.Random;

/** TEXTS by draws from fixed seeds, whole and spoiled: FAULTS and values compared with Naive's. */
public final class RandomTextsTest {
    private static final String BYTES = "|&<=>+-*/%!()09cmkhw";
    private static final int[] VALUES = {0, 1, -1, 2, 7, 10, 99, -99, 9999, Integer.MAX_VALUE, Integer.MIN_VALUE, 65536};

    public static void main(String[] args) {
        Due due = new Due("RandomTextsTest");
        Random draws = new Random(7);
        for (int i = 0; i < 60000; i++) {
            int use = draws.nextInt(2);
            String text = cut(aText(draws, use, draws.nextInt(6), draws.nextInt(5)), 50);
            if (draws.nextInt(3) == 0 && !text.isEmpty()) {
                text = spoiled(draws, text);
            }
            compare(due, draws, use, text);
        }
        due.end();
    }

    private static String cut(String text, int most) {
        return text.length() > most ? text.substring(0, most) : text;
    }

    private static String aText(Random draws, int use, int deep, int wide) {
        StringBuilder s = new StringBuilder(aLeaf(draws, use, deep));
        for (int i = draws.nextInt(wide + 1); i > 0; i--) {
            s.append("|&<=>+-*/%".charAt(draws.nextInt(10))).append(aLeaf(draws, use, deep));
        }
        return s.toString();
    }

    private static String aLeaf(Random draws, int use, int deep) {
        int kind = draws.nextInt(6);
        if (kind == 0 && deep > 0) {
            return "(" + aText(draws, use, deep - 1, 2) + ")";
        }
        if (kind == 1 && deep > 0) {
            return "!" + aLeaf(draws, use, deep - 1);
        }
        String names = use == 0 ? "cmkh" : "wkc";
        return kind < 4 ? names.substring(draws.nextInt(3), 3).substring(0, 1)
                : Integer.toString(draws.nextInt(new int[] {3, 100, 10000, 10400}[draws.nextInt(4)]));
    }

    private static String spoiled(Random draws, String text) {
        StringBuilder s = new StringBuilder(text);
        int at = draws.nextInt(s.length());
        char c = draws.nextInt(10) == 0 ? (char) draws.nextInt(256) : BYTES.charAt(draws.nextInt(BYTES.length()));
        if (draws.nextBoolean()) {
            s.setCharAt(at, c);
        } else {
            s.deleteCharAt(at);
        }
        return s.toString();
    }

    private static void compare(Due due, Random draws, int use, String text) {
        HandOverHorse x = new HandOverHorse();
        String names = use == 0 ? "cmkh" : "wkc";
        int fault = Naive.fault(text, names);
        due.is("text(" + use + ") of " + text, Due.read(x, use, text), fault < 0 ? 1 : -10 - fault);
        due.is("count(2) behind " + text, x.count(2), 0);
        for (int i = 0; i < 3; i++) {
            int[] v = new int[4];
            for (int k = 0; k < 4; k++) {
                v[k] = VALUES[draws.nextInt(VALUES.length)];
            }
            int value = fault < 0 ? Naive.value(text, names, v) : use == 0 ? 0 : v[0];
            due.is("law(" + use + ", " + v[0] + ", " + v[1] + ", " + v[2] + ", " + v[3] + ") of " + text,
                    x.law(use, v[0], v[1], v[2], v[3]), Math.max(use == 0 ? -999 : 0, Math.min(999, value)));
        }
    }
}
