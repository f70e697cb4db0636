import java.util.ArrayList;
import java.util.List;

/**
 * Long runs of calls, chosen by a fixed row of numbers, on a BagTree and on a model that follows the document by
 * brute force: it looks at all orders and at all ways.
 */
public final class OracleTest {
    private static int wrong = 0;
    private static long seed = 20261116L;
    private static final List<String> calls = new ArrayList<>();

    private static int below(int n) {
        seed = seed * 6364136223846793005L + 1442695040888963407L;
        return (int) ((seed >>> 33) % n);
    }

    private static int between(int low, int high) {
        return low + below(high - low + 1);
    }

    private static void due(String call, long got, long want) {
        calls.add(call + " = " + got);
        if (got == want) return;
        wrong++;
        if (wrong > 20) return;
        System.out.println("behind " + (calls.size() - 1) + " calls: " + call + " answered " + got + ", due is " + want);
        if (wrong == 1) System.out.println(String.join("\n", calls));
    }

    public static void main(String[] args) {
        for (int run = 0; run < 1500; run++) anyCalls(run % 7, 120);
        for (int run = 0; run < 400; run++) askedWays(between(1, 7), between(0, 100));
        for (int run = 0; run < 300; run++) bestOrders(between(1, 7), between(0, 100));
        System.out.println(wrong == 0 ? "all answers are as due" : wrong + " answers are not as due");
        if (wrong != 0) System.exit(1);
    }

    /** All calls, also with wrong numbers. */
    private static void anyCalls(int knots, int length) {
        calls.clear();
        BagTree x = new BagTree();
        Model m = new Model();
        for (int i = 0; i < knots; i++) {
            int w = between(0, 9);
            due("knot(" + w + ")", x.knot(w), m.knot(w));
        }
        for (int i = 0; i < length; i++) anyCall(x, m, knots);
    }

    /** Numbers that are far from all limits, or that a shift or a byte would take for small ones. */
    private static int farNumber() {
        int[] far = {Integer.MIN_VALUE, Integer.MAX_VALUE, -32, 31, 32, 33, 64, 256, -256, 65536, 1 << 30};
        return far[below(far.length)];
    }

    private static int someKnot(int knots) {
        if (below(40) == 0) return farNumber();
        return below(12) == 0 ? between(-1, 15) : between(0, Math.max(0, knots - 1));
    }

    private static int someWeight() {
        if (below(40) == 0) return farNumber();
        return below(12) == 0 ? between(-1, 1) * 1001 : between(0, 9);
    }

    private static int someFactor() {
        if (below(40) == 0) return farNumber();
        return below(12) == 0 ? between(-1, 1) * 11 : between(-10, 10);
    }

    private static int someOf(int low, int high) {
        return below(40) == 0 ? farNumber() : between(low, high);
    }

    private static void anyCall(BagTree x, Model m, int knots) {
        int a = someKnot(knots), b = someKnot(knots), w = someWeight(), f = someFactor();
        int s = someOf(-1, 4), t = someOf(-1, 4), c = someOf(-1, 6), mask = someOf(-1, (1 << knots) + 1);
        boolean most = below(2) == 0;
        long n = below(20) == 0 ? (long) farNumber() << below(34) : between(-1, 40);
        switch (below(40)) {
            case 0: if (m.n < 7 && below(4) == 0) due("knot(" + w + ")", x.knot(w), m.knot(w)); break;
            case 1: case 2: case 3: due("edge(" + a + ", " + b + ", " + w + ")", x.edge(a, b, w), m.edge(a, b, w)); break;
            case 4: due("cut(" + a + ", " + b + ")", x.cut(a, b), m.cut(a, b)); break;
            case 5: due("weigh(" + a + ", " + w + ")", x.weigh(a, w), m.weigh(a, w)); break;
            case 6: due("weight(" + a + ", " + b + ")", x.weight(a, b), m.weight(a, b)); break;
            case 7: due("beside(" + a + ")", x.beside(a), m.beside(a)); break;
            case 8: case 9: due("put(" + a + ")", x.put(a), m.put(a)); break;
            case 10: due("wipe()", x.wipe(), m.wipe()); break;
            case 11: case 12: due("make()", x.make(), m.make()); break;
            case 13: due("fills()", x.fills(), m.fills()); break;
            case 14: due("fewest()", x.fewest(), m.fewest()); break;
            case 15: due("least()", x.least(), m.least()); break;
            case 16: case 17: due("row(" + c + ")", x.row(c), m.row(c)); break;
            case 18: due("below()", x.below(), m.below()); break;
            case 19: if (below(3) == 0) due("clear()", x.clear(), m.clear()); break;
            case 20: case 21: due("bag(" + mask + ")", x.bag(mask), m.bag(mask)); break;
            case 22: due("hang(" + s + ", " + c + ")", x.hang(s, c), m.hang(s, c)); break;
            case 23: case 24: due("bagged(" + c + ", " + s + ")", x.bagged(c, s), m.bagged(c, s)); break;
            case 25: case 26: due("sound()", x.sound(), m.sound()); break;
            case 27: due("width()", x.width(), m.width()); break;
            case 28: due("separator()", x.separator(), m.separator()); break;
            case 29: if (below(3) == 0) due("states(" + c + ")", x.states(c), m.states(c)); break;
            case 30: due("factor(" + s + ", " + f + ")", x.factor(s, f), m.factor(s, f)); break;
            case 31: {
                int may = below(8) == 0 ? c : below(3) == 0 ? 0 : 1;
                due("pair(" + s + ", " + t + ", " + may + ", " + f + ")", x.pair(s, t, may, f), m.pair(s, t, may, f));
                break;
            }
            case 32: {
                int bits = below(3) == 0 ? between(-1, 16) : below(3);
                due("forbid(" + a + ", " + bits + ")", x.forbid(a, bits), m.forbid(a, bits));
                break;
            }
            case 33: due("ways()", x.ways(), m.ways()); break;
            case 34: due("best(" + most + ")", x.best(most), m.best(most)); break;
            case 35: due("bests(" + most + ")", x.bests(most), m.bests(most)); break;
            case 36: due("choice(" + most + ", " + a + ")", x.choice(most, a), m.choice(most, a)); break;
            case 37: due("drawn(" + n + ", " + a + ")", x.drawn(n, a), m.drawn(n, a)); break;
            case 38: due("share(" + a + ", " + s + ")", x.share(a, s), m.share(a, s)); break;
            default: due("count(" + c + ")", x.count(c), m.count(c)); break;
        }
    }

    private static void someNet(BagTree x, Model m, int knots, int percent) {
        for (int i = 0; i < knots; i++) {
            int w = between(0, 3);
            due("knot(" + w + ")", x.knot(w), m.knot(w));
        }
        for (int a = 0; a < knots; a++) {
            for (int b = a + 1; b < knots; b++) {
                if (below(100) >= percent) continue;
                int w = between(0, 3);
                due("edge(" + a + ", " + b + ", " + w + ")", x.edge(a, b, w), m.edge(a, b, w));
            }
        }
    }

    private static void someLaw(BagTree x, Model m, int knots) {
        int q = between(1, 4);
        due("states(" + q + ")", x.states(q), m.states(q));
        for (int s = 0; s < q; s++) {
            int f = between(-2, 2);
            due("factor(" + s + ", " + f + ")", x.factor(s, f), m.factor(s, f));
            for (int t = s; t < q; t++) {
                int g = between(-2, 2), may = below(5) == 0 ? 0 : 1;
                due("pair(" + t + ", " + s + ", " + may + ", " + g + ")", x.pair(t, s, may, g), m.pair(t, s, may, g));
            }
        }
        for (int k = 0; k < knots; k++) {
            if (below(3) > 0) continue;
            int bits = between(0, 15);
            due("forbid(" + k + ", " + bits + ")", x.forbid(k, bits), m.forbid(k, bits));
        }
    }

    /** Each question, for each knot, by a tree that is sound but often too wide. */
    private static void askedWays(int knots, int percent) {
        calls.clear();
        BagTree x = new BagTree();
        Model m = new Model();
        someNet(x, m, knots, percent);
        someLaw(x, m, knots);
        due("fewest()", x.fewest(), m.fewest());
        due("make()", x.make(), m.make());
        due("separator()", x.separator(), m.separator());
        due("ways()", x.ways(), m.ways());
        for (int i = 0; i < 2; i++) {
            boolean most = i == 0;
            due("best(" + most + ")", x.best(most), m.best(most));
            due("bests(" + most + ")", x.bests(most), m.bests(most));
            for (int k = 0; k < knots; k++) due("choice(" + most + ", " + k + ")", x.choice(most, k), m.choice(most, k));
        }
        long n = m.ways() > 0 ? below((int) Math.min(m.ways() + 2, 100000)) : 0;
        for (int k = 0; k < knots; k++) {
            due("drawn(" + n + ", " + k + ")", x.drawn(n, k), m.drawn(n, k));
            for (int s = -1; s < 5; s++) due("share(" + k + ", " + s + ")", x.share(k, s), m.share(k, s));
        }
    }

    private static void bestOrders(int knots, int percent) {
        calls.clear();
        BagTree x = new BagTree();
        Model m = new Model();
        someNet(x, m, knots, percent);
        due("below()", x.below(), m.below());
        due("least()", x.least(), m.least());
        for (int i = 0; i < knots; i++) due("row(" + i + ")", x.row(i), m.row(i));
        due("fills()", x.fills(), m.fills());
        due("make()", x.make(), m.make());
        for (int i = 0; i < knots; i++) {
            for (int what = 0; what < 3; what++) due("bagged(" + i + ", " + what + ")", x.bagged(i, what), m.bagged(i, what));
        }
        due("sound()", x.sound(), m.sound());
        due("separator()", x.separator(), m.separator());
    }

    /** The document, word by word, without a thought of time. */
    private static final class Model {
        static final int NONE = -1, BAD = -2, FULL = -3, STATE = -4;
        static final long NO = Long.MIN_VALUE;
        int n = 0, q = 2;
        final int[] w = new int[14];
        final int[][] e = new int[14][14];
        final int[] forbidden = new int[14];
        List<Integer> row = new ArrayList<>();
        final List<Integer> masks = new ArrayList<>();
        final List<Integer> ups = new ArrayList<>();
        int[] f = new int[4];
        int[][] pf = new int[4][4];
        boolean[][] no = new boolean[4][4];

        Model() {
            for (int[] line : e) java.util.Arrays.fill(line, -1);
        }

        boolean isKnot(int k) { return 0 <= k && k < n; }
        boolean isEdge(int a, int b) { return isKnot(a) && isKnot(b) && e[a][b] >= 0; }

        int knot(int weight) {
            if (weight < 0 || weight > 1000) return BAD;
            if (n == 14) return FULL;
            w[n] = weight;
            row.clear();
            clear();
            return n++;
        }

        int edge(int a, int b, int weight) {
            if (!isKnot(a) || !isKnot(b)) return NONE;
            if (a == b || weight < 0 || weight > 1000) return BAD;
            int answer = e[a][b] < 0 ? 1 : 0;
            e[a][b] = e[b][a] = weight;
            return answer;
        }

        int cut(int a, int b) {
            if (!isEdge(a, b)) return NONE;
            int was = e[a][b];
            e[a][b] = e[b][a] = -1;
            return was;
        }

        int weigh(int k, int weight) {
            if (!isKnot(k)) return NONE;
            if (weight < 0 || weight > 1000) return BAD;
            int was = w[k];
            w[k] = weight;
            return was;
        }

        int weight(int a, int b) {
            if (a == b) return isKnot(a) ? w[a] : NONE;
            return isEdge(a, b) ? e[a][b] : NONE;
        }

        int beside(int k) {
            if (!isKnot(k)) return NONE;
            int mask = 0;
            for (int i = 0; i < n; i++) if (isEdge(i, k)) mask |= 1 << i;
            return mask;
        }

        int put(int k) {
            if (!isKnot(k)) return NONE;
            if (row.contains(k)) return BAD;
            row.add(k);
            return row.size();
        }

        int wipe() {
            int had = row.size();
            row.clear();
            return had;
        }

        boolean[][] pairs() {
            boolean[][] near = new boolean[n][n];
            for (int a = 0; a < n; a++) for (int b = 0; b < n; b++) near[a][b] = isEdge(a, b);
            return near;
        }

        /** The bags of an order, and behind them how many fills there were. */
        int[] bagsOf(List<Integer> order) {
            boolean[][] near = pairs();
            boolean[] gone = new boolean[n];
            int[] bags = new int[n + 1];
            for (int i = 0; i < n; i++) {
                int k = order.get(i);
                gone[k] = true;
                bags[i] = 1 << k;
                for (int a = 0; a < n; a++) if (near[k][a] && !gone[a]) bags[i] |= 1 << a;
                for (int a = 0; a < n; a++) {
                    for (int b = 0; b < a; b++) {
                        if ((bags[i] >> a & 1) == 0 || (bags[i] >> b & 1) == 0 || near[a][b]) continue;
                        near[a][b] = near[b][a] = true;
                        bags[n]++;
                    }
                }
            }
            return bags;
        }

        int widthOf(List<Integer> order) {
            int[] bags = bagsOf(order);
            int most = -1;
            for (int i = 0; i < n; i++) most = Math.max(most, Integer.bitCount(bags[i]) - 1);
            return most;
        }

        int make() {
            if (n == 0 || row.size() != n) return STATE;
            clear();
            int[] bags = bagsOf(row);
            for (int i = 0; i < n; i++) {
                int up = i + 1 < n ? i + 1 : -1;
                for (int j = n - 1; j > i; j--) if ((bags[i] >> row.get(j) & 1) == 1) up = j;
                masks.add(bags[i]);
                ups.add(up);
            }
            return width();
        }

        int fills() {
            return row.size() == n ? bagsOf(row)[n] : NONE;
        }

        int fewest() {
            boolean[][] near = pairs();
            boolean[] gone = new boolean[n];
            row = new ArrayList<>();
            for (int i = 0; i < n; i++) {
                int next = -1, few = 99;
                for (int k = 0; k < n; k++) {
                    int d = 0;
                    for (int a = 0; a < n; a++) if (!gone[a] && a != k && near[k][a]) d++;
                    if (!gone[k] && d < few) { next = k; few = d; }
                }
                row.add(next);
                gone[next] = true;
                for (int a = 0; a < n; a++) for (int b = 0; b < n; b++) if (a != b && near[next][a] && near[next][b]) near[a][b] = true;
            }
            return widthOf(row);
        }

        int least() {
            List<List<Integer>> found = new ArrayList<>();
            int[] best = {99};
            orders(new ArrayList<>(), best, found);
            row = new ArrayList<>(found.get(0));
            return best[0];
        }

        /** Orders come with the least first knot first, so only one that is less wide is better. */
        void orders(List<Integer> begun, int[] best, List<List<Integer>> found) {
            if (begun.size() == n) {
                int here = widthOf(begun);
                if (here >= best[0]) return;
                best[0] = here;
                found.clear();
                found.add(new ArrayList<>(begun));
                return;
            }
            for (int k = 0; k < n; k++) {
                if (begun.contains(k)) continue;
                begun.add(k);
                orders(begun, best, found);
                begun.remove(begun.size() - 1);
            }
        }

        int row(int i) { return 0 <= i && i < row.size() ? row.get(i) : NONE; }

        int below() {
            boolean[] gone = new boolean[n];
            int most = -1;
            for (int i = 0; i < n; i++) {
                int next = -1, few = 99;
                for (int k = 0; k < n; k++) {
                    int d = 0;
                    for (int a = 0; a < n; a++) if (!gone[a] && isEdge(k, a)) d++;
                    if (!gone[k] && d < few) { next = k; few = d; }
                }
                gone[next] = true;
                most = Math.max(most, few);
            }
            return most;
        }

        int clear() {
            int had = masks.size();
            masks.clear();
            ups.clear();
            return had;
        }

        int bag(int mask) {
            if (mask == 0 || mask < 0 || mask >= 1 << n) return BAD;
            if (masks.size() == 14) return FULL;
            if (!ups.isEmpty()) ups.set(ups.size() - 1, ups.size());
            masks.add(mask);
            ups.add(-1);
            return masks.size() - 1;
        }

        boolean isBag(int i) { return 0 <= i && i < masks.size(); }

        int hang(int bag, int up) {
            if (!isBag(bag) || !isBag(up)) return NONE;
            if (bag == masks.size() - 1 || up <= bag) return BAD;
            return ups.set(bag, up);
        }

        int bagged(int i, int what) {
            if (!isBag(i)) return NONE;
            if (what == 0) return masks.get(i);
            if (what == 1) return ups.get(i);
            int found = 0;
            for (int up : ups) if (up == i) found++;
            return what == 2 ? found : NONE;
        }

        int sound() {
            if (masks.isEmpty()) return STATE;
            for (int a = 0; a < n; a++) {
                for (int b = a + 1; b < n; b++) {
                    boolean together = !isEdge(a, b);
                    for (int mask : masks) if ((mask >> a & 1) == 1 && (mask >> b & 1) == 1) together = true;
                    if (!together) return 1 + 16 * a + b;
                }
            }
            for (int k = 0; k < n; k++) {
                boolean there = false;
                for (int mask : masks) if ((mask >> k & 1) == 1) there = true;
                if (!there) return 1001 + k;
            }
            for (int k = 0; k < n; k++) {
                int tops = 0;
                for (int i = 0; i < masks.size(); i++) {
                    if ((masks.get(i) >> k & 1) == 0) continue;
                    if (ups.get(i) < 0 || (masks.get(ups.get(i)) >> k & 1) == 0) tops++;
                }
                if (tops != 1) return 2001 + k;
            }
            return 0;
        }

        int width() {
            int most = 0;
            for (int mask : masks) most = Math.max(most, Integer.bitCount(mask));
            return masks.isEmpty() ? NONE : most - 1;
        }

        int separator() {
            if (sound() != 0) return STATE;
            for (int i = 0; i < masks.size(); i++) if (leaves(masks.get(i)) <= n / 2) return i;
            return NONE;
        }

        int leaves(int without) {
            boolean[][] r = new boolean[n][n];
            for (int a = 0; a < n; a++) {
                for (int b = 0; b < n; b++) {
                    r[a][b] = (a == b || isEdge(a, b)) && (without >> a & 1) == 0 && (without >> b & 1) == 0;
                }
            }
            for (int c = 0; c < n; c++) for (int a = 0; a < n; a++) for (int b = 0; b < n; b++) r[a][b] |= r[a][c] && r[c][b];
            int most = 0;
            for (int a = 0; a < n; a++) {
                int here = 0;
                for (int b = 0; b < n; b++) if (r[a][b]) here++;
                most = Math.max(most, here);
            }
            return most;
        }

        int states(int size) {
            if (size < 1 || size > 4) return BAD;
            int was = q;
            q = size;
            f = new int[4];
            pf = new int[4][4];
            no = new boolean[4][4];
            java.util.Arrays.fill(forbidden, 0);
            return was;
        }

        int factor(int s, int g) {
            if (s < 0 || s >= q) return NONE;
            if (g < -10 || g > 10) return BAD;
            int was = f[s] + 100;
            f[s] = g;
            return was;
        }

        int pair(int s, int t, int may, int g) {
            if (s < 0 || s >= q || t < 0 || t >= q) return NONE;
            if (may != 0 && may != 1 || g < -10 || g > 10) return BAD;
            int was = no[s][t] ? 0 : pf[s][t] + 100;
            pf[s][t] = pf[t][s] = g;
            no[s][t] = no[t][s] = may == 0;
            return was;
        }

        int forbid(int k, int bits) {
            if (!isKnot(k)) return NONE;
            if (bits < 0 || bits > 15) return BAD;
            int was = forbidden[k];
            forbidden[k] = bits;
            return was;
        }

        boolean canAsk() { return sound() == 0 && width() <= 4; }

        List<int[]> allWays() {
            List<int[]> found = new ArrayList<>();
            int[] way = new int[n];
            for (long code = 0; code < Math.round(Math.pow(q, n)); code++) {
                long rest = code;
                for (int k = n - 1; k >= 0; k--) { way[k] = (int) (rest % q); rest /= q; }
                if (isWay(way)) found.add(way.clone());
            }
            return found;
        }

        boolean isWay(int[] way) {
            for (int k = 0; k < n; k++) if ((forbidden[k] >> way[k] & 1) == 1) return false;
            for (int a = 0; a < n; a++) for (int b = 0; b < a; b++) if (isEdge(a, b) && no[way[a]][way[b]]) return false;
            return true;
        }

        long sumOf(int[] way) {
            long sum = 0;
            for (int k = 0; k < n; k++) sum += w[k] * f[way[k]];
            for (int a = 0; a < n; a++) for (int b = 0; b < a; b++) if (isEdge(a, b)) sum += e[a][b] * pf[way[a]][way[b]];
            return sum;
        }

        List<int[]> bestWays(boolean most) {
            List<int[]> found = new ArrayList<>();
            for (int[] way : allWays()) {
                long here = sumOf(way), held = found.isEmpty() ? here : sumOf(found.get(0));
                if (most ? here > held : here < held) found.clear();
                if (found.isEmpty() || here == held) found.add(way);
            }
            return found;
        }

        long ways() { return canAsk() ? allWays().size() : NO; }

        long best(boolean most) {
            if (!canAsk()) return NO;
            List<int[]> found = bestWays(most);
            return found.isEmpty() ? NO : sumOf(found.get(0));
        }

        long bests(boolean most) {
            if (!canAsk()) return NO;
            List<int[]> found = bestWays(most);
            return found.isEmpty() ? NO : found.size();
        }

        int choice(boolean most, int k) {
            if (!isKnot(k)) return NONE;
            if (!canAsk()) return STATE;
            List<int[]> found = bestWays(most);
            return found.isEmpty() ? NONE : found.get(0)[k];
        }

        int drawn(long i, int k) {
            if (!isKnot(k) || i < 0) return NONE;
            if (!canAsk()) return STATE;
            List<int[]> found = allWays();
            return i < found.size() ? found.get((int) i)[k] : NONE;
        }

        long share(int k, int s) {
            if (!canAsk() || !isKnot(k) || s < 0 || s >= q) return NO;
            long found = 0;
            for (int[] way : allWays()) if (way[k] == s) found++;
            return found;
        }

        int count(int what) {
            int edges = 0;
            for (int a = 0; a < n; a++) for (int b = 0; b < a; b++) if (isEdge(a, b)) edges++;
            int[] answers = {n, edges, row.size(), masks.size(), q, sound() == 0 ? 1 : 0};
            return 0 <= what && what < 6 ? answers[what] : NONE;
        }
    }
}
