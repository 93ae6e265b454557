import java.util.ArrayList;
import java.util.Arrays;
import java.util.HashMap;
import java.util.List;
import java.util.Map;

/**
 * The document said once more in other ways (tables, all orders, all sets), slow and plain, so that
 * answers of HandOverHorse can be compared with answers that were not worked out by its own code.
 */
final class Naive {
    private static final int[] ABOVE = {-1, 0, 0, 0, 1, 2, 3};
    private static final int[] STUFF = {0, 1, 2, 3, 1, 2, 3};
    private static final String[] NAMES = {"cmkh", "wkc"};

    /** What an IMAGE keeps; a STROKE: kind, m, cell, hand, from, to, crust; a LOOK: one, other, seen. */
    private static final class State {
        List<int[]> strokes = new ArrayList<>();
        List<int[]> looks = new ArrayList<>();
        String tape = "";
        String[] texts = new String[2];
        List<Integer> waiting = new ArrayList<>();
        int z = 1;

        State copy() {
            State s = new State();
            for (int[] stroke : strokes) {
                s.strokes.add(stroke.clone());
            }
            for (int[] look : looks) {
                s.looks.add(look.clone());
            }
            s.tape = tape;
            s.texts = texts.clone();
            s.waiting = new ArrayList<>(waiting);
            s.z = z;
            return s;
        }
    }

    private State state = new State();
    private State image;
    private int images;
    private List<Integer> trace = new ArrayList<>();
    private final int[][] sheets = new int[4][];
    private final int[] bits = new int[4];
    private final int[] told = new int[6];

    private int error(int k) {
        told[k]++;
        return Due.LOW - k;
    }

    private int n() {
        return state.strokes.size();
    }

    private boolean noStroke(int s) {
        return s < 0 || s >= n();
    }

    private boolean noLook(int l) {
        return l < 0 || l >= state.looks.size();
    }

    private static boolean out(int v, int least, int most) {
        return v < least || v > most;
    }

    private static int held(int v, int least, int most) {
        return v < least ? least : v > most ? most : v;
    }

    int stroke(int km, int cell, int hand) {
        if (out(km, 0, 69) || out(cell, 0, 35) || out(hand, 0, 99)) {
            return error(1);
        }
        if (n() == 8) {
            return error(4);
        }
        state.strokes.add(new int[] {km / 10, km % 10, cell, hand, 0, 9999, 0});
        return n() - 1;
    }

    private int early(int s) {
        int[] t = state.strokes.get(s);
        int m = t[1];
        int from = t[4];
        int crust = t[6];
        int[] by = {from, from + m, from, from - 10 * m, from + m + 50, from + crust, Math.max(5000, from - 10 * m)};
        return held(by[t[0]] + law0(0, crust, m, t[0], t[3]), 0, 9999);
    }

    private int late(int s) {
        int[] t = state.strokes.get(s);
        int m = t[1];
        int to = t[5];
        int crust = t[6];
        int[] by = {to, to, to - crust, to, to - m, to - 2 * crust, 9999};
        return held(by[t[0]] + law0(0, crust, m, t[0], t[3]), 0, 9999);
    }

    /** EARLY of a STROKE (0 without one), for draws of YEARS; asks nothing. */
    int yearNear(int s) {
        return noStroke(s) ? 0 : early(s);
    }

    int ofStroke(int stroke, int what) {
        if (noStroke(stroke) || out(what, 0, 9)) {
            return error(1);
        }
        int[] t = state.strokes.get(stroke);
        return what < 7 ? t[what] : what == 7 ? early(stroke) : what == 8 ? late(stroke) : STUFF[t[0]];
    }

    int change(int stroke, int what, int v) {
        if (noStroke(stroke) || out(what, 2, 6) || out(v, 0, new int[] {35, 99, 9999, 9999, 99}[what - 2])) {
            return error(1);
        }
        int was = state.strokes.get(stroke)[what];
        state.strokes.get(stroke)[what] = v;
        return was;
    }

    int become(int stroke, int km) {
        if (noStroke(stroke) || out(km, 0, 69)) {
            return error(1);
        }
        int[] t = state.strokes.get(stroke);
        int was = t[0];
        t[0] = km / 10;
        t[1] = km % 10;
        return was;
    }

    int as(int stroke, int kind) {
        if (noStroke(stroke) || out(kind, 0, 6)) {
            return error(1);
        }
        int[] t = state.strokes.get(stroke);
        for (int k = t[0]; k >= 0; k = ABOVE[k]) {
            if (k == kind) {
                return t[1];
            }
        }
        return error(5);
    }

    private boolean refusedLook(int one, int other, int seen) {
        return noStroke(one) || noStroke(other) || one == other || out(seen, 1, 99);
    }

    int over(int one, int other, int seen) {
        if (refusedLook(one, other, seen)) {
            return error(1);
        }
        if (state.looks.size() == 12) {
            return error(4);
        }
        state.looks.add(new int[] {one, other, seen});
        return state.looks.size() - 1;
    }

    private int weight(int[] look) {
        int[] t = state.strokes.get(look[0]);
        return law0(1, look[2], t[0], t[6], 0);
    }

    int ofLook(int look, int what) {
        if (noLook(look) || out(what, 0, 3)) {
            return error(1);
        }
        int[] l = state.looks.get(look);
        return what == 3 ? weight(l) : l[what];
    }

    int see(int look, int v) {
        if (noLook(look) || out(v, 1, 99)) {
            return error(1);
        }
        int was = state.looks.get(look)[2];
        state.looks.get(look)[2] = v;
        return was;
    }

    int forget() {
        if (state.looks.isEmpty()) {
            return error(3);
        }
        state.looks.remove(state.looks.size() - 1);
        return state.looks.size();
    }

    int feed(long word, int n) {
        if (out(n, 1, 8)) {
            return error(1);
        }
        if (state.tape.length() + n > 50) {
            return error(4);
        }
        StringBuilder more = new StringBuilder(state.tape);
        for (int i = 0; i < n; i++) {
            more.append((char) (word >>> 8 * i & 255));
        }
        state.tape = more.toString();
        return state.tape.length();
    }

    int text(int use) {
        if (out(use, 0, 1)) {
            return error(1);
        }
        String text = state.tape;
        state.tape = "";
        int fault = fault(text, NAMES[use]);
        if (fault >= 0) {
            return -10 - fault;
        }
        state.texts[use] = text;
        return 1;
    }

    /** Goes byte by byte with what is open on a stack; a whole TEXT: -1. */
    static int fault(String text, String names) {
        StringBuilder open = new StringBuilder();
        List<Boolean> compared = new ArrayList<>(List.of(false));
        boolean wantsValue = true;
        int digits = 0;
        for (int i = 0; i < text.length(); i++) {
            char c = text.charAt(i);
            boolean digit = c >= '0' && c <= '9';
            if (wantsValue) {
                if (c == '!' || c == '(') {
                    if (open.length() == 5) {
                        return i;
                    }
                    open.append(c);
                    if (c == '(') {
                        compared.add(false);
                    }
                    continue;
                }
                if (!digit && names.indexOf(c) < 0) {
                    return i;
                }
                wantsValue = false;
                digits = digit ? 1 : 4;
                closeNots(open);
                continue;
            }
            if (digit && digits < 4) {
                digits++;
                continue;
            }
            digits = 4;
            int last = compared.size() - 1;
            if (c == ')') {
                if (open.length() == 0) {
                    return i;
                }
                open.setLength(open.length() - 1);
                compared.remove(last);
                closeNots(open);
            } else if ("<=>".indexOf(c) >= 0) {
                if (compared.get(last)) {
                    return i;
                }
                compared.set(last, true);
                wantsValue = true;
            } else if ("|&".indexOf(c) >= 0) {
                compared.set(last, false);
                wantsValue = true;
            } else if ("+-*/%".indexOf(c) >= 0) {
                wantsValue = true;
            } else {
                return i;
            }
        }
        return wantsValue || open.length() > 0 ? text.length() : -1;
    }

    private static void closeNots(StringBuilder open) {
        while (open.length() > 0 && open.charAt(open.length() - 1) == '!') {
            open.setLength(open.length() - 1);
        }
    }

    /** The value of a TEXT: parted at the last of the loosest signs that stand in no bracket. */
    static int value(String text, String names, int[] values) {
        for (String signs : new String[] {"|", "&", "<=>", "+-", "*/%"}) {
            int depth = 0;
            for (int i = text.length() - 1; i > 0; i--) {
                char c = text.charAt(i);
                depth += c == ')' ? 1 : c == '(' ? -1 : 0;
                if (depth == 0 && signs.indexOf(c) >= 0) {
                    return joined(c, value(text.substring(0, i), names, values),
                            value(text.substring(i + 1), names, values));
                }
            }
        }
        char first = text.charAt(0);
        if (first == '!') {
            return value(text.substring(1), names, values) == 0 ? 1 : 0;
        }
        if (first == '(') {
            return value(text.substring(1, text.length() - 1), names, values);
        }
        return names.indexOf(first) >= 0 ? values[names.indexOf(first)] : Integer.parseInt(text);
    }

    private static int joined(char sign, int a, int b) {
        switch (sign) {
            case '|': return (a != 0) | (b != 0) ? 1 : 0;
            case '&': return (a != 0) & (b != 0) ? 1 : 0;
            case '<': return a < b ? 1 : 0;
            case '=': return a == b ? 1 : 0;
            case '>': return a > b ? 1 : 0;
            case '+': return (int) ((long) a + b);
            case '-': return (int) ((long) a - b);
            case '*': return (int) ((long) a * b);
            case '/': return b == 0 ? 0 : (int) ((long) a / b);
            default: return b == 0 ? 0 : (int) ((long) a % b);
        }
    }

    private int law0(int use, int a, int b, int c, int d) {
        int without = use == 0 ? 0 : a;
        String text = state.texts[use];
        int v = text == null ? without : value(text, NAMES[use], new int[] {a, b, c, d});
        return held(v, use == 0 ? -999 : 0, 999);
    }

    int law(int use, int a, int b, int c, int d) {
        return out(use, 0, 1) ? error(1) : law0(use, a, b, c, d);
    }

    /** All ORDERS, the first as a row of numbers first. */
    private List<int[]> allOrders() {
        List<int[]> all = new ArrayList<>();
        addOrders(all, new int[n()], 0, 0);
        return all;
    }

    private void addOrders(List<int[]> all, int[] order, int at, int used) {
        if (at == n()) {
            all.add(order.clone());
            return;
        }
        for (int s = 0; s < n(); s++) {
            if ((used >> s & 1) == 0) {
                order[at] = s;
                addOrders(all, order, at + 1, used | 1 << s);
            }
        }
    }

    private static int placeOf(int[] order, int s) {
        int at = 0;
        while (order[at] != s) {
            at++;
        }
        return at;
    }

    private int notHeld(int[] order) {
        int not = 0;
        for (int l = 0; l < state.looks.size(); l++) {
            int[] look = state.looks.get(l);
            if (placeOf(order, look[0]) < placeOf(order, look[1])) {
                not |= 1 << l;
            }
        }
        return not;
    }

    int orders() {
        int count = 0;
        for (int[] order : allOrders()) {
            count += notHeld(order) == 0 ? 1 : 0;
        }
        return count;
    }

    int sure(int one, int other) {
        if (noStroke(one) || noStroke(other) || one == other) {
            return error(1);
        }
        int above = 0;
        int below = 0;
        for (int[] order : allOrders()) {
            if (notHeld(order) == 0) {
                if (placeOf(order, one) > placeOf(order, other)) {
                    above++;
                } else {
                    below++;
                }
            }
        }
        return above > 0 && below == 0 ? 1 : below > 0 && above == 0 ? -1 : 0;
    }

    private int[] bestOrder() {
        int[] weights = new int[state.looks.size()];
        for (int l = 0; l < weights.length; l++) {
            weights[l] = weight(state.looks.get(l));
        }
        int[] best = null;
        int least = Integer.MAX_VALUE;
        for (int[] order : allOrders()) {
            int sum = lost(notHeld(order), weights);
            if (sum < least) {
                least = sum;
                best = order;
            }
        }
        return best;
    }

    private static int lost(int not, int[] weights) {
        int sum = 0;
        for (int l = 0; l < weights.length; l++) {
            sum += (not >> l & 1) * weights[l];
        }
        return sum;
    }

    int wrong(int what) {
        if (out(what, 0, 1)) {
            return error(1);
        }
        int not = notHeld(bestOrder());
        int sum = 0;
        for (int l = 0; l < state.looks.size(); l++) {
            sum += (not >> l & 1) * weight(state.looks.get(l));
        }
        return what == 0 ? sum : not;
    }

    int best(int i) {
        return noStroke(i) ? error(1) : bestOrder()[i];
    }

    /** Least and greatest YEARS by shortest ways in the graph of differences; null: none. */
    private int[][] spans(int fixed, int year) {
        int n = n();
        long[][] most = new long[n + 1][n + 1];
        for (long[] row : most) {
            Arrays.fill(row, 1000000);
        }
        for (int i = 0; i < n; i++) {
            most[i][i] = 0;
            most[n][i] = i == fixed ? year : late(i);
            most[i][n] = i == fixed ? -year : -early(i);
        }
        most[n][n] = 0;
        for (int[] look : state.looks) {
            most[look[0]][look[1]] = Math.min(most[look[0]][look[1]], -1);
        }
        for (int k = 0; k <= n; k++) {
            for (int i = 0; i <= n; i++) {
                for (int j = 0; j <= n; j++) {
                    most[i][j] = Math.min(most[i][j], most[i][k] + most[k][j]);
                }
            }
        }
        int[][] spans = new int[n][];
        for (int i = 0; i <= n; i++) {
            if (most[i][i] < 0) {
                return null;
            }
            if (i < n) {
                spans[i] = new int[] {(int) -most[i][n], (int) most[n][i]};
            }
        }
        return spans;
    }

    private static int width(int[][] spans) {
        int sum = 0;
        for (int[] span : spans) {
            sum += span[1] - span[0];
        }
        return sum;
    }

    int span(int stroke, int what) {
        if (noStroke(stroke) || out(what, 0, 1)) {
            return error(1);
        }
        int[][] spans = spans(-1, 0);
        return spans == null ? error(2) : spans[stroke][what];
    }

    int test(int stroke, int year) {
        if (noStroke(stroke) || out(year, 0, 9999)) {
            return error(1);
        }
        int[][] spans = spans(stroke, year);
        return spans == null ? error(2) : width(spans);
    }

    int next(int what) {
        if (out(what, 0, 1)) {
            return error(1);
        }
        int[][] spans = spans(-1, 0);
        if (n() == 0 || spans == null) {
            return error(2);
        }
        int[] worst = new int[n()];
        int found = 0;
        for (int s = 0; s < n(); s++) {
            for (int year : new int[] {spans[s][0], (spans[s][0] + spans[s][1]) / 2, spans[s][1]}) {
                worst[s] = Math.max(worst[s], width(spans(s, year)));
            }
            found = worst[s] < worst[found] ? s : found;
        }
        return what == 0 ? found : worst[found];
    }

    private static int far(int a, int b) {
        return Math.abs(a / 6 - b / 6) + Math.abs(a % 6 - b % 6);
    }

    private boolean joins(int one, int other) {
        int[] a = state.strokes.get(one);
        int[] b = state.strokes.get(other);
        return STUFF[a[0]] == STUFF[b[0]] && Math.abs(a[3] - b[3]) <= 9 && far(a[2], b[2]) <= gap(a) + gap(b);
    }

    private static int gap(int[] t) {
        return new int[] {1, 1 + t[1] / 3, 1, 2, 0, 2, 2 + t[1]}[t[0]];
    }

    int join(int one, int other) {
        if (noStroke(one) || noStroke(other) || one == other) {
            return error(1);
        }
        return joins(one, other) ? 1 : 0;
    }

    int joinings(int what) {
        if (out(what, 0, 1)) {
            return error(1);
        }
        int[] found = {0, 99};
        partOn(new ArrayList<>(), 0, found);
        return found[what];
    }

    private void partOn(List<List<Integer>> beasts, int s, int[] found) {
        if (s == n()) {
            found[0]++;
            found[1] = Math.min(found[1], beasts.size());
            return;
        }
        for (int b = 0; b < beasts.size(); b++) {
            List<Integer> beast = beasts.get(b);
            boolean all = true;
            for (int o : beast) {
                all &= joins(o, s);
            }
            if (all) {
                beast.add(s);
                partOn(beasts, s + 1, found);
                beast.remove(beast.size() - 1);
            }
        }
        beasts.add(new ArrayList<>(List.of(s)));
        partOn(beasts, s + 1, found);
        beasts.remove(beasts.size() - 1);
    }

    /** Whether a set may come when others stand: of like STUFF, all that lies below stands. */
    private boolean mayCome(int set, int stand) {
        int stuff = -1;
        for (int s = 0; s < n(); s++) {
            if ((set >> s & 1) != 0) {
                int own = STUFF[state.strokes.get(s)[0]];
                if (stuff >= 0 && stuff != own) {
                    return false;
                }
                stuff = own;
            }
        }
        for (int[] look : state.looks) {
            if ((set >> look[0] & 1) != 0 && (stand >> look[1] & 1) == 0) {
                return false;
            }
        }
        return true;
    }

    private int timesFrom(int stand, Map<Integer, Integer> known) {
        int all = (1 << n()) - 1;
        if (stand == all) {
            return 0;
        }
        if (known.containsKey(stand)) {
            return known.get(stand);
        }
        int fewest = 999;
        for (int set = 1; set <= all; set++) {
            if ((set & stand) == 0 && mayCome(set, stand)) {
                fewest = Math.min(fewest, 1 + timesFrom(stand | set, known));
            }
        }
        known.put(stand, fewest);
        return fewest;
    }

    int times(int what) {
        if (out(what, 0, 1)) {
            return error(1);
        }
        Map<Integer, Integer> known = new HashMap<>();
        int fewest = timesFrom(0, known);
        if (fewest >= 999) {
            return error(2);
        }
        if (what == 0 || n() == 0) {
            return fewest;
        }
        int set = 1;
        while (!mayCome(set, 0) || 1 + timesFrom(set, known) != fewest) {
            set++;
        }
        return set;
    }

    int lamp(int cell, int bright) {
        if (out(cell, 0, 35) || out(bright, 0, 10)) {
            return error(1);
        }
        int set = 0;
        for (int s = 0; s < n(); s++) {
            set += far(cell, state.strokes.get(s)[2]) <= bright ? 1 << s : 0;
        }
        return set;
    }

    int hand(int high) {
        if (out(high, 0, 99)) {
            return error(1);
        }
        int found = 0;
        for (int set = 0; set < 1 << n(); set++) {
            int least = high;
            int most = high;
            boolean near = true;
            int lowest = 999;
            int highest = -999;
            for (int s = 0; s < n(); s++) {
                if ((set >> s & 1) != 0) {
                    int h = state.strokes.get(s)[3];
                    lowest = Math.min(lowest, h);
                    highest = Math.max(highest, h);
                    near &= h - least >= -9 && h - most <= 9;
                }
            }
            if (near && highest - lowest <= 9 && Integer.bitCount(set) > Integer.bitCount(found)) {
                found = set;
            }
        }
        return found;
    }

    int again() {
        int turned = 0;
        for (int[] look : state.looks) {
            state.z = state.z * 1103515245 + 12345;
            if ((state.z >>> 8) % 100 >= look[2]) {
                int one = look[0];
                look[0] = look[1];
                look[1] = one;
                turned++;
            }
        }
        return turned;
    }

    int seed(int v) {
        int was = state.z;
        state.z = v;
        return was;
    }

    /** BODIES by KIND and act; 0: none of its own. */
    private static final int[][] BODIES = {
        {10, 11, 12, 13}, {0, 20, 0, 0}, {30, 0, 0, 0}, {0, 0, 40, 0}, {0, 50, 0, 0}, {0, 0, 0, 60}, {0, 0, 70, 71}};

    private int say(int stroke, int from, int act, int x) {
        int kind = from;
        while (BODIES[kind][act] == 0) {
            kind = ABOVE[kind];
        }
        int body = BODIES[kind][act];
        trace.add(body);
        int own = state.strokes.get(stroke)[0];
        int m = state.strokes.get(stroke)[1];
        int up = ABOVE[kind];
        int left;
        switch (body) {
            case 10: return x + stroke;
            case 11: return say(stroke, own, 0, x) * 2;
            case 12: return x - m;
            case 13:
                left = say(stroke, own, 1, x);
                return left ^ say(stroke, own, 2, x);
            case 20:
                left = say(stroke, up, 1, x);
                return left - say(stroke, own, 2, 1);
            case 30: return say(stroke, up, 0, x) * 3;
            case 40: return -say(stroke, up, 2, x);
            case 50: return say(stroke, up, 1, x + 1);
            case 60:
                left = say(stroke, up, 3, x);
                return left - say(stroke, own, 0, 2);
            case 70: return say(stroke, up, 2, x) ^ stroke;
            default:
                left = say(stroke, own, 1, x);
                return left - say(stroke, up, 3, x);
        }
    }

    int voice(int stroke, int act, int x) {
        if (noStroke(stroke) || out(act, 0, 3)) {
            return error(1);
        }
        trace = new ArrayList<>();
        return say(stroke, state.strokes.get(stroke)[0], act, x);
    }

    int trace(int i) {
        return i < 0 || i >= Math.min(40, trace.size()) ? error(2) : trace.get(i);
    }

    int sheet(int sheet, int b, int n) {
        if (out(sheet, 0, 3) || b != 0 && b != 8 && b != 16 && b != 32) {
            return error(1);
        }
        if (b != 0 && n < 0) {
            return error(3);
        }
        if (b != 0 && n > 40) {
            return error(1);
        }
        sheets[sheet] = b == 0 ? null : new int[n];
        bits[sheet] = b;
        return 1;
    }

    int put(int sheet, int i, int v) {
        if (out(sheet, 0, 3)) {
            return error(1);
        }
        if (sheets[sheet] == null) {
            return error(2);
        }
        if (out(i, 0, sheets[sheet].length - 1)) {
            return error(1);
        }
        sheets[sheet][i] = bits[sheet] == 8 ? (byte) v : bits[sheet] == 16 ? (short) v : v;
        return 1;
    }

    int move(int sheet, int i, int other, int j, int n) {
        if (out(sheet, 0, 3) || out(other, 0, 3)) {
            return error(1);
        }
        if (sheets[sheet] == null || sheets[other] == null) {
            return error(2);
        }
        if (bits[sheet] != bits[other]) {
            return error(5);
        }
        if (n < 0 || i < 0 || j < 0 || (long) i + n > sheets[sheet].length || (long) j + n > sheets[other].length) {
            return error(1);
        }
        int[] were = sheets[sheet].clone();
        for (int k = 0; k < n; k++) {
            sheets[other][j + k] = were[i + k];
        }
        return n;
    }

    int looks(int sheet) {
        if (out(sheet, 0, 3)) {
            return error(1);
        }
        if (sheets[sheet] == null) {
            return error(2);
        }
        int[] row = sheets[sheet];
        int came = 0;
        while (3 * came + 2 < row.length && state.looks.size() < 12
                && !refusedLook(row[3 * came], row[3 * came + 1], row[3 * came + 2])) {
            state.looks.add(Arrays.copyOfRange(row, 3 * came, 3 * came + 3));
            came++;
        }
        return came;
    }

    int judge(int sheet) {
        if (out(sheet, 0, 3)) {
            return error(1);
        }
        if (sheets[sheet] == null) {
            return error(2);
        }
        int[] years = sheets[sheet];
        for (int s = 0; s < n(); s++) {
            if (s >= years.length || years[s] < early(s) || years[s] > late(s)) {
                return s;
            }
            for (int[] look : state.looks) {
                if (look[0] <= s && look[1] <= s && years[look[0]] < years[look[1]] + 1) {
                    return s;
                }
            }
        }
        return n();
    }

    int image() {
        image = state.copy();
        return ++images;
    }

    int restore() {
        if (image == null) {
            return error(2);
        }
        state = image.copy();
        return n();
    }

    int tell(int v) {
        if (state.waiting.size() == 20) {
            return error(4);
        }
        state.waiting.add(v);
        return state.waiting.size();
    }

    int check() {
        List<Integer> row = state.waiting;
        state.waiting = new ArrayList<>();
        for (int i = 0; i < row.size(); i++) {
            int v = row.get(i);
            List<Integer> ahead = row.subList(0, i);
            if (i >= n() || noStroke(v) || ahead.contains(v)) {
                return i + 1;
            }
            for (int[] look : state.looks) {
                if (look[0] == v && !ahead.contains(look[1])) {
                    return i + 1;
                }
            }
        }
        return row.size() < n() ? row.size() + 1 : 0;
    }

    int count(int what) {
        if (out(what, 0, 5)) {
            return error(1);
        }
        return new int[] {n(), state.looks.size(), state.tape.length(), state.waiting.size(),
            Math.min(40, trace.size()), state.z}[what];
    }

    int told(int k) {
        return out(k, 1, 5) ? error(1) : told[k];
    }
}
