/**
 * Nets with as many knots as there can be, against answers that are known, and against slower ways to find them:
 * widths over all sets of knots, ways one by one.
 */
public final class LargeTest {
    private static final int KNOTS = 14;
    private static int wrong = 0;
    private static long seed = 14L;

    private static int below(int n) {
        seed = seed * 6364136223846793005L + 1442695040888963407L;
        return (int) ((seed >>> 33) % n);
    }

    private static void due(String call, long got, long want) {
        if (got == want) return;
        wrong++;
        if (wrong <= 30) System.out.println(call + " answered " + got + ", due is " + want);
    }

    public static void main(String[] args) {
        for (int percent = 0; percent <= 100; percent += 4) leastOfSome(KNOTS, percent);
        for (int i = 0; i < 1200; i++) leastOfSome(8 + i % 3, 15 + below(70));
        leastOfKnown();
        knownCounts();
        for (int i = 0; i < 12; i++) everyWay(i % 2 + 2, i % 3 + 2);
        for (int i = 0; i < 30; i++) anyTreeWillDo();
        for (int i = 0; i < 60; i++) {
            wayByCounting(nearlyTree(4), i % 3);
            wayByCounting(tenOnFour(), i % 3);
            bestWayByForbidding(nearlyTree(4), i % 2 == 0);
            bestWayByForbidding(tenOnFour(), i % 2 == 0);
        }
        System.out.println(wrong == 0 ? "all answers are as due" : wrong + " answers are not as due");
        if (wrong != 0) System.exit(1);
    }

    private static BagTree loose(int knots) {
        BagTree x = new BagTree();
        for (int k = 0; k < knots; k++) due("knot", x.knot(k % 5), k);
        return x;
    }

    // ---- the least width

    private static void leastOfSome(int knots, int percent) {
        BagTree x = loose(knots);
        for (int a = 0; a < knots; a++) {
            for (int b = 0; b < a; b++) if (below(100) < percent) x.edge(a, b, 1);
        }
        leastIsDue("some net of " + knots + " with " + percent + " percent", x);
    }

    private static void leastOfKnown() {
        BagTree ring = loose(KNOTS);
        for (int a = 0; a < KNOTS; a++) ring.edge(a, (a + 1) % KNOTS, 1);
        due("least() of a ring", ring.least(), 2);
        leastIsDue("a ring", ring);
        BagTree heawood = ring;
        for (int a = 0; a < KNOTS; a += 2) heawood.edge(a, (a + 5) % KNOTS, 1);
        due("below() of Heawood's net", heawood.below(), 3);
        due("least() of Heawood's net", heawood.least(), 5);
        leastIsDue("Heawood's net", heawood);
        BagTree two = loose(KNOTS);
        for (int a = 0; a < 7; a++) for (int b = 7; b < KNOTS; b++) two.edge(a, b, 1);
        due("least() of seven and seven", two.least(), 7);
        leastIsDue("seven and seven", two);
        BagTree grid = loose(12);
        for (int k = 0; k < 12; k++) {
            if (k % 4 < 3) grid.edge(k, k + 1, 1);
            if (k < 8) grid.edge(k, k + 4, 1);
        }
        due("least() of a grid", grid.least(), 3);
        leastIsDue("a grid", grid);
    }

    /** Over all sets of knots that are gone: the least width of what is still to come. */
    private static void leastIsDue(String what, BagTree x) {
        int n = x.count(0);
        int[] near = new int[n];
        for (int k = 0; k < n; k++) near[k] = x.beside(k);
        int[] due = new int[1 << n];
        due[(1 << n) - 1] = -1;
        for (int gone = (1 << n) - 2; gone >= 0; gone--) {
            due[gone] = 99;
            for (int k = 0; k < n; k++) {
                if ((gone >> k & 1) == 1) continue;
                due[gone] = Math.min(due[gone], Math.max(neighbours(near, gone, k), due[gone | 1 << k]));
            }
        }
        due("least() of " + what, x.least(), due[0]);
        due("count(2) of " + what, x.count(2), n);
        int gone = 0;
        for (int i = 0; i < n; i++) {
            int next = 0;
            while ((gone >> next & 1) == 1 || Math.max(neighbours(near, gone, next), due[gone | 1 << next]) > due[0]) next++;
            due("row(" + i + ") of " + what, x.row(i), next);
            gone |= 1 << next;
        }
        due("make() of " + what, x.make(), due[0]);
        due("sound() of " + what, x.sound(), 0);
    }

    /** Knots not gone that a knot reaches through knots that are. */
    private static int neighbours(int[] near, int gone, int knot) {
        int seen = 1 << knot, todo = 1 << knot, found = 0;
        while (todo != 0) {
            int k = Integer.numberOfTrailingZeros(todo);
            todo &= todo - 1;
            int next = near[k] & ~seen;
            seen |= next;
            found |= next & ~gone;
            todo |= next & gone;
        }
        return Integer.bitCount(found);
    }

    // ---- ways

    private static void knownCounts() {
        BagTree x = loose(KNOTS);
        due("states(4)", x.states(4), 2);
        x.fewest();
        x.make();
        due("ways() without edges", x.ways(), 268435456L);
        due("bests() without edges", x.bests(false), 268435456L);
        due("drawn(last, 13)", x.drawn(268435455L, 13), 3);
        due("drawn(last, 0)", x.drawn(268435455L, 0), 3);
        due("drawn(behind the last, 0)", x.drawn(268435456L, 0), BagTree.NONE);
        due("drawn(2^40, 0)", x.drawn(1L << 40, 0), BagTree.NONE);
        due("share(13, 2)", x.share(13, 2), 67108864L);
        for (int s = 0; s < 4; s++) x.pair(s, s, 0, 0);
        for (int k = 1; k < KNOTS; k++) x.edge(k - 1, k, 1000);
        x.fewest();
        x.make();
        due("ways() of a path in four colours", x.ways(), 4L * 1594323);
        x.edge(13, 0, 1000);
        x.fewest();
        x.make();
        due("ways() of a ring in four colours", x.ways(), 4782969L + 3);
        for (int k = 0; k < KNOTS; k++) x.weigh(k, 1000);
        x.states(2);
        x.factor(1, 10);
        x.pair(1, 1, 1, 10);
        due("best(true) at its greatest", x.best(true), 280000);
        x.factor(1, -10);
        x.pair(1, 1, 1, -10);
        due("best(false) at its least", x.best(false), -280000);
        due("bests(false)", x.bests(false), 1);
        due("choice(false, 13)", x.choice(false, 13), 1);
        due("best(true)", x.best(true), 0);
        due("choice(true, 13)", x.choice(true, 13), 0);
    }

    /** A net of a given width at most whose knots are numbered at random. */
    private static BagTree nearlyTree(int width) {
        BagTree x = loose(KNOTS);
        int[] name = new int[KNOTS];
        for (int i = 0; i < KNOTS; i++) {
            int j = below(i + 1);
            name[i] = name[j];
            name[j] = i;
        }
        int[] cliques = new int[KNOTS];
        for (int i = 0; i < KNOTS; i++) {
            int under = i == 0 ? 0 : cliques[below(i)];
            while (Integer.bitCount(under) > width) under &= ~(1 << below(KNOTS));
            cliques[i] = under | 1 << i;
            for (int j = 0; j < i; j++) if ((under >> j & 1) == 1 && below(10) > 0) x.edge(name[i], name[j], below(4));
        }
        return x;
    }

    private static void someLaw(BagTree x, int q) {
        x.states(q);
        for (int s = 0; s < q; s++) {
            x.factor(s, below(5) - 2);
            for (int t = s; t < q; t++) x.pair(s, t, below(6) == 0 ? 0 : 1, below(5) - 2);
        }
        for (int i = 0; i < 3; i++) x.forbid(below(KNOTS), 1 << below(4));
    }

    private static void everyWay(int q, int width) {
        BagTree x = nearlyTree(width);
        someLaw(x, q);
        due("width of a nearly tree", Math.max(x.least(), width), width);
        x.make();
        Walk walk = new Walk(x, q);
        walk.from(0, 0);
        due("ways()", x.ways(), walk.ways);
        for (int i = 0; i < 2; i++) {
            boolean most = i == 1;
            due("best()", x.best(most), walk.ways == 0 ? BagTree.NO : walk.best[i]);
            due("bests()", x.bests(most), walk.ways == 0 ? BagTree.NO : walk.bests[i]);
            for (int k = 0; k < KNOTS; k++) due("choice()", x.choice(most, k), walk.ways == 0 ? -1 : walk.first[i][k]);
        }
        for (int k = 0; k < KNOTS; k++) {
            due("drawn()", x.drawn(Walk.KEPT, k), walk.ways <= Walk.KEPT ? -1 : walk.kept[k]);
            for (int s = 0; s < q; s++) due("share()", x.share(k, s), walk.shares[k][s]);
        }
    }

    /** Goes through all ways, in their order. The law is asked for by telling it what it is already told. */
    private static final class Walk {
        static final int KEPT = 777;
        final int q;
        final int[] way = new int[KNOTS], load = new int[KNOTS], forbidden = new int[KNOTS], kept = new int[KNOTS];
        final int[] factor = new int[4];
        final int[][] tie = new int[KNOTS][KNOTS], pair = new int[4][4], first = new int[2][KNOTS];
        final long[] best = new long[2], bests = new long[2];
        final long[][] shares = new long[KNOTS][4];
        long ways;

        Walk(BagTree x, int q) {
            this.q = q;
            for (int s = 0; s < q; s++) {
                factor[s] = x.factor(s, 0);
                x.factor(s, factor[s] - 100);
                for (int t = 0; t < q; t++) {
                    pair[s][t] = x.pair(s, t, 1, 0);
                    x.pair(s, t, pair[s][t] == 0 ? 0 : 1, pair[s][t] == 0 ? 0 : pair[s][t] - 100);
                }
            }
            for (int a = 0; a < KNOTS; a++) {
                load[a] = x.weight(a, a);
                forbidden[a] = x.forbid(a, 0);
                x.forbid(a, forbidden[a]);
                for (int b = 0; b < KNOTS; b++) tie[a][b] = x.weight(a, b);
            }
        }

        void from(int k, long sum) {
            if (k == KNOTS) {
                take(sum);
                return;
            }
            for (int s = 0; s < q; s++) {
                if ((forbidden[k] >> s & 1) == 1) continue;
                long here = sum + load[k] * (factor[s] - 100);
                boolean may = true;
                for (int a = 0; a < k && may; a++) {
                    if (tie[a][k] < 0) continue;
                    may = pair[way[a]][s] != 0;
                    here += tie[a][k] * (pair[way[a]][s] - 100);
                }
                way[k] = s;
                if (may) from(k + 1, here);
            }
        }

        void take(long sum) {
            for (int i = 0; i < 2; i++) {
                if (ways == 0 || (i == 1 ? sum > best[i] : sum < best[i])) {
                    best[i] = sum;
                    bests[i] = 0;
                    first[i] = way.clone();
                }
                if (sum == best[i]) bests[i]++;
            }
            for (int k = 0; k < KNOTS; k++) shares[k][way[k]]++;
            if (ways == KEPT) System.arraycopy(way, 0, kept, 0, KNOTS);
            ways++;
        }
    }

    /** Answers do not depend on which sound tree there is: of the best order, of another one, or told bag by bag. */
    private static void anyTreeWillDo() {
        BagTree x = nearlyTree(3);
        someLaw(x, 4);
        x.least();
        x.make();
        long[] want = asked(x);
        x.fewest();
        if (x.make() <= 4) sameAnswers("of fewest()", asked(x), want);
        x.least();
        x.make();
        tellFewerBags(x);
        due("sound() of a tree told", x.sound(), 0);
        sameAnswers("of a tree told", asked(x), want);
    }

    /** Tells the tree again: a bag that has all knots of its up takes its place, and what hung on either hangs on it. */
    private static void tellFewerBags(BagTree x) {
        int n = x.count(3);
        int[] masks = new int[n], ups = new int[n], number = new int[n];
        for (int i = 0; i < n; i++) {
            masks[i] = x.bagged(i, 0);
            ups[i] = x.bagged(i, 1);
        }
        for (int i = 0; i < n - 1; i++) {
            if ((masks[ups[i]] & ~masks[i]) != 0 || masks[i] == 0) continue;
            masks[ups[i]] = masks[i];
            masks[i] = 0;
        }
        x.clear();
        for (int i = 0; i < n; i++) if (masks[i] != 0) number[i] = x.bag(masks[i]);
        for (int i = n - 2; i >= 0; i--) if (masks[i] == 0) number[i] = number[ups[i]];
        for (int i = 0; i < n - 1; i++) if (masks[i] != 0) x.hang(number[i], number[ups[i]]);
    }

    /** Ten knots that each are joined with four others, and these with one another. */
    private static BagTree tenOnFour() {
        BagTree x = loose(KNOTS);
        for (int a = 10; a < KNOTS; a++) {
            for (int b = 0; b < a; b++) x.edge(a, b, below(4));
        }
        return x;
    }

    /** As wide as may be asked about, with as many states as there can be. */
    private static void tellWidest(BagTree x) {
        someLaw(x, 4);
        due("least() is 4 at most", Math.max(x.least(), 4), 4);
        x.make();
    }

    /** A way has as many ways before it as can be counted by holding its first knots and giving the next one less. */
    private static void wayByCounting(BagTree x, int part) {
        tellWidest(x);
        long ways = x.ways();
        if (ways == 0) return;
        long n = part == 0 ? ways - 1 : ways / (part + 1);
        int[] way = new int[KNOTS];
        for (int k = 0; k < KNOTS; k++) way[k] = x.drawn(n, k);
        long before = 0;
        for (int k = 0; k < KNOTS; k++) {
            for (int s = 0; s < way[k]; s++) before += x.share(k, s);
            x.forbid(k, 15 & ~(1 << way[k]));
        }
        due("ways that are as drawn(" + n + ")", x.ways(), 1);
        due("ways before drawn(" + n + ")", before, n);
    }

    /** In the first best way each knot has the least state that still lets the best sum be, as knots before it are held. */
    private static void bestWayByForbidding(BagTree x, boolean most) {
        tellWidest(x);
        long best = x.best(most);
        if (best == BagTree.NO) return;
        int[] way = new int[KNOTS];
        for (int k = 0; k < KNOTS; k++) way[k] = x.choice(most, k);
        for (int k = 0; k < KNOTS; k++) {
            int forbidden = x.forbid(k, 0);
            int s = 0;
            while (s < 4 && !isBestWith(x, most, best, k, forbidden, s)) s++;
            due("choice(" + most + ", " + k + ")", way[k], s);
        }
    }

    private static boolean isBestWith(BagTree x, boolean most, long best, int knot, int forbidden, int state) {
        if ((forbidden >> state & 1) == 1) return false;
        x.forbid(knot, 15 & ~(1 << state));
        return x.best(most) == best;
    }

    private static long[] asked(BagTree x) {
        long[] answers = new long[5 + 5 * KNOTS];
        int i = 0;
        answers[i++] = x.ways();
        for (int m = 0; m < 2; m++) {
            answers[i++] = x.best(m == 0);
            answers[i++] = x.bests(m == 0);
        }
        for (int k = 0; k < KNOTS; k++) {
            answers[i++] = x.choice(true, k);
            answers[i++] = x.choice(false, k);
            answers[i++] = x.drawn(answers[0] / 3, k);
            answers[i++] = x.share(k, 0);
            answers[i++] = x.share(k, 3);
        }
        return answers;
    }

    private static void sameAnswers(String what, long[] got, long[] want) {
        for (int i = 0; i < want.length; i++) due("question " + i + " with the tree " + what, got[i], want[i]);
    }
}
