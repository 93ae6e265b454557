import java.util.Random;

/** Runs of calls by draws from fixed seeds: each answer is compared with that of Naive. */
public final class RandomRunsTest {
    private static final int[] EDGES = {
        -1, 0, 1, 2, 3, 4, 5, 6, 7, 8, 9, 10, 11, 12, 35, 36, 40, 41, 69, 70, 98, 99, 100, 5000, 9999, 10000,
        Integer.MAX_VALUE, Integer.MIN_VALUE, -1000000001, 256, 65536};
    private static final String SIGNS = "|&<=>+-*/%!()0123456789cmkhwcmkhwcmkhwkkcc xA";

    private final Random draws;
    private final int mostStrokes;
    private final HandOverHorse x = new HandOverHorse();
    private final Naive naive = new Naive();
    private final Due due;
    private String call = "";
    private int got;
    private int want;

    private RandomRunsTest(Due due, long seed, int mostStrokes) {
        this.due = due;
        this.draws = new Random(seed);
        this.mostStrokes = mostStrokes;
    }

    public static void main(String[] args) {
        Due due = new Due("RandomRunsTest");
        for (int seed = 0; seed < 1500 && due.wrongs() == 0; seed++) {
            new RandomRunsTest(due, seed, seed % 6 + 1).run(seed);
        }
        for (int seed = 2000; seed < 2006 && due.wrongs() == 0; seed++) {
            new RandomRunsTest(due, seed, 8).run(seed);
        }
        due.end();
    }

    private void run(int seed) {
        StringBuilder calls = new StringBuilder();
        boolean heavy = mostStrokes > 6;
        for (int i = 0; i < 512; i++) {
            int which = draws.nextInt(100);
            if (heavy && i % 16 != 0 && which >= 50 && which < 60) {
                which = draws.nextInt(50);
            }
            doCall(which);
            calls.append(call).append('=').append(want).append(' ');
            due.is("seed " + seed + " call " + i + " " + call, got, want);
            if (got != want) {
                System.out.println(calls);
                return;
            }
        }
    }

    private int edge() {
        return EDGES[draws.nextInt(EDGES.length)];
    }

    /** Mostly a number from 0 to most, now and then another one. */
    private int upTo(int most) {
        return draws.nextInt(12) == 0 ? edge() : draws.nextInt(most + 1);
    }

    private int aStroke() {
        return draws.nextInt(20) == 0 ? edge() : draws.nextInt(mostStrokes);
    }

    private void answer(String said, int got, int want) {
        this.call = said;
        this.got = got;
        this.want = want;
    }

    private void doCall(int which) {
        if (which < 30) {
            doStrokesAndLooks(which);
        } else if (which < 40) {
            doTexts(which);
        } else if (which < 60) {
            doFinds(which);
        } else if (which < 80) {
            doMoreFinds(which);
        } else {
            doRest(which);
        }
    }

    private void doStrokesAndLooks(int which) {
        int a = aStroke();
        int b = aStroke();
        int c = upTo(9);
        if (which < 5) {
            int km = upTo(69);
            int cell = draws.nextBoolean() ? upTo(35) : upTo(2);
            int hand = draws.nextBoolean() ? upTo(99) : 40 + upTo(20);
            if (naive.count(0) < mostStrokes || mostStrokes == 8 && draws.nextInt(4) == 0) {
                answer("stroke(" + km + ", " + cell + ", " + hand + ")", x.stroke(km, cell, hand), naive.stroke(km, cell, hand));
                return;
            }
            which = 5 + draws.nextInt(25);
        }
        if (which < 8) {
            answer("ofStroke(" + a + ", " + c + ")", x.ofStroke(a, c), naive.ofStroke(a, c));
        } else if (which < 13) {
            int what = draws.nextInt(15) == 0 ? edge() : 2 + draws.nextInt(5);
            int v = what == 4 || what == 5 ? draws.nextBoolean() ? upTo(9999) : 4990 + upTo(20) : upTo(what == 2 ? 35 : 99);
            answer("change(" + a + ", " + what + ", " + v + ")", x.change(a, what, v), naive.change(a, what, v));
        } else if (which < 15) {
            int km = upTo(69);
            answer("become(" + a + ", " + km + ")", x.become(a, km), naive.become(a, km));
        } else if (which < 17) {
            c = upTo(6);
            answer("as(" + a + ", " + c + ")", x.as(a, c), naive.as(a, c));
        } else if (which < 22) {
            int seen = upTo(99);
            answer("over(" + a + ", " + b + ", " + seen + ")", x.over(a, b, seen), naive.over(a, b, seen));
        } else if (which < 24) {
            a = upTo(12);
            c = upTo(3);
            answer("ofLook(" + a + ", " + c + ")", x.ofLook(a, c), naive.ofLook(a, c));
        } else if (which < 26) {
            a = upTo(11);
            int seen = upTo(99);
            answer("see(" + a + ", " + seen + ")", x.see(a, seen), naive.see(a, seen));
        } else {
            answer("forget()", x.forget(), naive.forget());
        }
    }

    private void doTexts(int which) {
        if (which < 34) {
            String text = draws.nextInt(3) == 0 ? noise() : aText(0);
            int n = Math.min(8, Math.max(1, text.length()));
            if (draws.nextInt(15) == 0) {
                n = edge();
            }
            long word = 0;
            for (int i = Math.min(8, text.length()) - 1; i >= 0; i--) {
                word = word << 8 | text.charAt(i);
            }
            answer("feed(" + word + "L, " + n + ")", x.feed(word, n), naive.feed(word, n));
        } else if (which < 37) {
            int use = upTo(1);
            answer("text(" + use + ")", x.text(use), naive.text(use));
        } else {
            int use = upTo(1);
            int a = upTo(99);
            int b = draws.nextInt(4) == 0 ? draws.nextInt() : upTo(9);
            int c = upTo(99);
            int d = upTo(99);
            answer("law(" + use + ", " + a + ", " + b + ", " + c + ", " + d + ")", x.law(use, a, b, c, d), naive.law(use, a, b, c, d));
        }
    }

    private String noise() {
        StringBuilder s = new StringBuilder();
        for (int i = draws.nextInt(8); i >= 0; i--) {
            s.append(draws.nextInt(40) == 0 ? (char) draws.nextInt(256) : SIGNS.charAt(draws.nextInt(SIGNS.length())));
        }
        return s.toString();
    }

    private String aText(int depth) {
        StringBuilder s = new StringBuilder();
        s.append(aLeaf(depth));
        for (int i = draws.nextInt(3); i > 0; i--) {
            s.append("|&<=>+-*/%+-*".charAt(draws.nextInt(13))).append(aLeaf(depth));
        }
        return s.toString();
    }

    private String aLeaf(int depth) {
        int kind = draws.nextInt(8);
        if (kind == 0 && depth < 3) {
            return "(" + aText(depth + 1) + ")";
        }
        if (kind == 1) {
            return "!" + aLeaf(depth);
        }
        return kind < 4 ? Integer.toString(draws.nextInt(draws.nextBoolean() ? 10 : 10000)) : "kkcmhw".substring(kind - 3, kind - 2);
    }

    private void doFinds(int which) {
        int a = aStroke();
        int b = aStroke();
        int c = upTo(1);
        if (which < 43) {
            answer("span(" + a + ", " + c + ")", x.span(a, c), naive.span(a, c));
        } else if (which < 46) {
            int year = draws.nextBoolean() ? upTo(9999) : naive.yearNear(a);
            answer("test(" + a + ", " + year + ")", x.test(a, year), naive.test(a, year));
        } else if (which < 49) {
            answer("next(" + c + ")", x.next(c), naive.next(c));
        } else if (which < 50) {
            answer("join(" + a + ", " + b + ")", x.join(a, b), naive.join(a, b));
        } else if (which < 52) {
            answer("orders()", x.orders(), naive.orders());
        } else if (which < 55) {
            answer("sure(" + a + ", " + b + ")", x.sure(a, b), naive.sure(a, b));
        } else if (which < 58) {
            answer("wrong(" + c + ")", x.wrong(c), naive.wrong(c));
        } else {
            answer("best(" + a + ")", x.best(a), naive.best(a));
        }
    }

    private void doMoreFinds(int which) {
        int a = aStroke();
        int c = upTo(1);
        if (which < 62) {
            int b = aStroke();
            answer("join(" + a + ", " + b + ")", x.join(a, b), naive.join(a, b));
        } else if (which < 65) {
            answer("joinings(" + c + ")", x.joinings(c), naive.joinings(c));
        } else if (which < 68) {
            answer("times(" + c + ")", x.times(c), naive.times(c));
        } else if (which < 70) {
            int cell = upTo(35);
            int bright = upTo(10);
            answer("lamp(" + cell + ", " + bright + ")", x.lamp(cell, bright), naive.lamp(cell, bright));
        } else if (which < 72) {
            int high = upTo(99);
            answer("hand(" + high + ")", x.hand(high), naive.hand(high));
        } else if (which < 73) {
            answer("again()", x.again(), naive.again());
        } else if (which < 74) {
            int v = draws.nextInt();
            answer("seed(" + v + ")", x.seed(v), naive.seed(v));
        } else if (which < 78) {
            int act = upTo(3);
            int v = draws.nextInt(4) == 0 ? edge() : draws.nextInt();
            answer("voice(" + a + ", " + act + ", " + v + ")", x.voice(a, act, v), naive.voice(a, act, v));
        } else {
            int i = upTo(9);
            answer("trace(" + i + ")", x.trace(i), naive.trace(i));
        }
    }

    private void doRest(int which) {
        int sheet = upTo(3);
        int other = upTo(3);
        if (which < 81) {
            int bits = new int[] {8, 16, 32, 0, edge()}[draws.nextInt(5)];
            int n = draws.nextInt(3) == 0 ? upTo(40) : upTo(10);
            answer("sheet(" + sheet + ", " + bits + ", " + n + ")", x.sheet(sheet, bits, n), naive.sheet(sheet, bits, n));
        } else if (which < 85) {
            int i = upTo(9);
            int fit = i % 3 == 2 ? 1 + draws.nextInt(99) : aStroke();
            int v = draws.nextInt(5) == 0 ? draws.nextInt() : draws.nextInt(3) == 0 ? upTo(9999) : fit;
            answer("put(" + sheet + ", " + i + ", " + v + ")", x.put(sheet, i, v), naive.put(sheet, i, v));
        } else if (which < 87) {
            int i = upTo(9);
            int j = upTo(9);
            int n = upTo(9);
            answer("move(" + sheet + ", " + i + ", " + other + ", " + j + ", " + n + ")",
                    x.move(sheet, i, other, j, n), naive.move(sheet, i, other, j, n));
        } else if (which < 89) {
            answer("looks(" + sheet + ")", x.looks(sheet), naive.looks(sheet));
        } else if (which < 91) {
            answer("judge(" + sheet + ")", x.judge(sheet), naive.judge(sheet));
        } else if (which < 92) {
            answer("image()", x.image(), naive.image());
        } else if (which < 93) {
            answer("restore()", x.restore(), naive.restore());
        } else if (which < 96) {
            int v = naive.count(3) < 8 ? naive.count(3) : aStroke();
            v = draws.nextInt(4) == 0 ? aStroke() : v;
            answer("tell(" + v + ")", x.tell(v), naive.tell(v));
        } else if (which < 97) {
            answer("check()", x.check(), naive.check());
        } else if (which < 98) {
            int what = upTo(5);
            answer("count(" + what + ")", x.count(what), naive.count(what));
        } else {
            int k = draws.nextInt(10) == 0 ? edge() : 1 + draws.nextInt(5);
            answer("told(" + k + ")", x.told(k), naive.told(k));
        }
    }
}
