import java.util.List;
import java.util.function.Supplier;

/**
 * The boundaries that the document names for all calls at once: 512 calls on an object, any numbers in any state, and
 * refusals that change nothing one behind the other.
 */
public final class TermsBoundaryTest {
    private static final int NONE = -1, BAD = -2, FULL = -3, STATE = -4;
    private static final long NO = Long.MIN_VALUE;
    private static final int MOST_CALLS = 512;
    private static final int[] NUMBERS = {
        Integer.MIN_VALUE, -65536, -33, -32, -11, -10, -1, 0, 1, 2, 3, 4, 5, 10, 11, 13, 14, 15, 16, 31, 32, 33, 64, 256,
        1000, 1001, 16383, 16384, 65536, Integer.MAX_VALUE
    };
    /** Fewer numbers, for calls that take four. */
    private static final int[] FEWER = {Integer.MIN_VALUE, -32, -11, -10, -1, 0, 1, 3, 4, 11, 14, 32, Integer.MAX_VALUE};
    private static final List<Supplier<BagTree>> ANY =
        List.of(Nets::none, Nets::small, Nets::bare, Nets::unsound, Nets::wide, Nets::full, Nets::wayless);

    public static void main(String[] args) {
        Trial.about("the constants");
        constants();
        Trial.about("An object is used for at most 512 calls: the last one is answered as the first");
        manyQuestions();
        manyOrders();
        manyBags();
        manyLaws();
        Trial.about("any numbers in any state are answered");
        for (Supplier<BagTree> net : ANY) anyNumbers(net);
        Trial.about("They change nothing: all refusals one behind the other");
        allRefusals();
        Trial.about("the same calls give the same answers");
        for (Supplier<BagTree> net : ANY) Trial.alike("the same calls", net.get(), net.get());
        Trial.end();
    }

    private static void due(String call, long got, long want) {
        Trial.due(call, got, want);
    }

    private static void constants() {
        due("NONE", BagTree.NONE, -1);
        due("BAD", BagTree.BAD, -2);
        due("FULL", BagTree.FULL, -3);
        due("STATE", BagTree.STATE, -4);
        due("NO", BagTree.NO, Long.MIN_VALUE);
    }

    // ---- 512 calls

    private static void manyQuestions() {
        BagTree x = Nets.path(14);
        x.least();
        x.make();
        x.pair(1, 1, 0, 0);
        int used = 14 + 13 + 3;
        for (; used + 2 <= MOST_CALLS; used += 2) {
            due("ways(), call " + (used + 1), x.ways(), 987);
            due("drawn(986, 12), call " + (used + 2), x.drawn(986, 12), 1);
        }
    }

    private static void manyOrders() {
        BagTree x = Nets.ring(14);
        int used = 14 + 14;
        for (; used + 4 <= MOST_CALLS; used += 4) {
            due("least(), call " + (used + 1), x.least(), 2);
            due("make(), call " + (used + 2), x.make(), 2);
            due("fills(), call " + (used + 3), x.fills(), 11);
            due("wipe(), call " + (used + 4), x.wipe(), 14);
        }
    }

    private static void manyBags() {
        BagTree x = Nets.loose(1);
        int used = 1;
        for (; used + 16 <= MOST_CALLS; used += 16) {
            for (int i = 0; i < 14; i++) due("bag(1), call " + (used + i + 1), x.bag(1), i);
            due("bag(1), call " + (used + 15), x.bag(1), FULL);
            due("clear(), call " + (used + 16), x.clear(), 14);
        }
        for (; used < MOST_CALLS; used++) due("clear(), call " + (used + 1), x.clear(), 0);
    }

    private static void manyLaws() {
        BagTree x = Nets.loose(2);
        int used = 2;
        int was = 2;
        for (; used + 5 <= MOST_CALLS; used += 5) {
            int n = used % 4 + 1;
            due("states(" + n + "), call " + (used + 1), x.states(n), was);
            due("pair(), call " + (used + 2), x.pair(n - 1, 0, 0, 5), 100);
            due("pair(), call " + (used + 3), x.pair(0, n - 1, 1, 5), 0);
            due("edge(), call " + (used + 4), x.edge(0, 1, n), 1);
            due("cut(), call " + (used + 5), x.cut(0, 1), n);
            was = n;
        }
    }

    // ---- any numbers

    /** A net for calls with any numbers; it is made anew before it has had too many. */
    private static final class Tried {
        private final Supplier<BagTree> maker;
        private BagTree net;
        private int calls;

        Tried(Supplier<BagTree> maker) {
            this.maker = maker;
            this.net = maker.get();
        }

        BagTree next() {
            if (calls == 300) {
                isWhole(net);
                net = maker.get();
                calls = 0;
            }
            calls++;
            return net;
        }
    }

    private static void anyNumbers(Supplier<BagTree> maker) {
        Tried one = new Tried(maker), two = new Tried(maker), more = new Tried(maker);
        for (int a : NUMBERS) {
            for (int call = 0; call < 10; call++) answered(call, a, withOne(one.next(), call, a));
            for (int b : NUMBERS) {
                for (int call = 10; call < 20; call++) answered(call, a, withTwo(two.next(), call, a, b));
            }
        }
        for (int a : FEWER) {
            for (int b : FEWER) {
                for (int c : FEWER) {
                    answered(20, a, more.next().edge(a, b, c));
                    for (int d : FEWER) answered(21, a, more.next().pair(a, b, c, d));
                }
            }
        }
    }

    /** Below -4 there is no answer but NO and a sum of ways. */
    private static void answered(int call, int number, long got) {
        if (got < STATE) due("call " + call + " with " + number, got, STATE);
    }

    private static long withOne(BagTree x, int call, int a) {
        switch (call) {
            case 0: return x.knot(a);
            case 1: return x.beside(a);
            case 2: return x.put(a);
            case 3: return x.row(a);
            case 4: return x.bag(a);
            case 5: return x.states(a);
            case 6: return x.choice(true, a);
            case 7: return x.choice(false, a);
            case 8: return x.count(a);
            default: return x.drawn(0, a);
        }
    }

    private static long withTwo(BagTree x, int call, int a, int b) {
        switch (call) {
            case 10: return x.cut(a, b);
            case 11: return x.weigh(a, b);
            case 12: return x.weight(a, b);
            case 13: return x.hang(a, b);
            case 14: return x.bagged(a, b);
            case 15: return x.factor(a, b);
            case 16: return x.forbid(a, b);
            case 17: return x.drawn(a, b);
            case 18: return x.drawn((long) a << 20, b);
            default: return Math.max(0, x.share(a, b));
        }
    }

    /** Whatever was called, all is within its limits. */
    private static void isWhole(BagTree x) {
        int knots = x.count(0), inRow = x.count(2), bags = x.count(3), q = x.count(4);
        due("0 .. 14 knots", knots >= 0 && knots <= 14 ? 1 : 0, 1);
        due("no more in the row than there are", inRow >= 0 && inRow <= knots ? 1 : 0, 1);
        due("0 .. 14 bags", bags >= 0 && bags <= 14 ? 1 : 0, 1);
        due("1 .. 4 states", q >= 1 && q <= 4 ? 1 : 0, 1);
        for (int k = 0; k < knots; k++) {
            due("a weight 0 .. 1000", x.weight(k, k) >= 0 && x.weight(k, k) <= 1000 ? 1 : 0, 1);
            due("knots beside a knot", x.beside(k) & ~((1 << knots) - 1), 0);
            due("an edge with itself", x.beside(k) >> k & 1, 0);
        }
        for (int i = 0; i < bags; i++) {
            int up = x.bagged(i, 1);
            due("an up above it", i == bags - 1 ? up : up > i && up < bags ? NONE : up, NONE);
        }
    }

    // ---- refusals

    /** Refused calls of all kinds on one object, behind which it is as if there had been none. */
    private static void allRefusals() {
        for (Supplier<BagTree> net : List.<Supplier<BagTree>>of(Nets::small, Nets::full)) {
            BagTree x = net.get();
            int knots = x.count(0), bags = x.count(3), inRow = x.count(2), q = x.count(4);
            refusedByNet(x, knots);
            refusedByTree(x, knots, bags, inRow);
            refusedByLaw(x, knots, q);
            Trial.alike("all refusals", x, net.get());
        }
    }

    private static void refusedByNet(BagTree x, int knots) {
        due("knot(-1)", x.knot(-1), BAD);
        due("knot(1001)", x.knot(1001), BAD);
        due("edge(0, knots, 1)", x.edge(0, knots, 1), NONE);
        due("edge(0, 0, 1)", x.edge(0, 0, 1), BAD);
        due("edge(0, 1, 1001)", x.edge(0, 1, 1001), BAD);
        due("cut(0, 0)", x.cut(0, 0), NONE);
        due("cut(0, knots - 1)", x.cut(0, knots - 1), NONE);
        due("weigh(knots, 1)", x.weigh(knots, 1), NONE);
        due("weigh(0, 1001)", x.weigh(0, 1001), BAD);
        due("weight(knots, knots)", x.weight(knots, knots), NONE);
        due("beside(knots)", x.beside(knots), NONE);
    }

    private static void refusedByTree(BagTree x, int knots, int bags, int inRow) {
        due("put(knots)", x.put(knots), NONE);
        due("put(0)", x.put(0), BAD);
        due("row(inRow)", x.row(inRow), NONE);
        due("bag(0)", x.bag(0), BAD);
        due("bag(1 << knots)", x.bag(1 << knots), BAD);
        due("hang(bags, 0)", x.hang(bags, 0), NONE);
        due("hang(bags - 1, 0)", x.hang(bags - 1, 0), BAD);
        due("hang(1, 1)", x.hang(1, 1), BAD);
        due("bagged(bags, 0)", x.bagged(bags, 0), NONE);
        due("bagged(0, 3)", x.bagged(0, 3), NONE);
    }

    private static void refusedByLaw(BagTree x, int knots, int q) {
        due("states(0)", x.states(0), BAD);
        due("states(5)", x.states(5), BAD);
        due("factor(q, 0)", x.factor(q, 0), NONE);
        due("factor(0, 11)", x.factor(0, 11), BAD);
        due("pair(0, q, 1, 0)", x.pair(0, q, 1, 0), NONE);
        due("pair(0, 1, 2, 0)", x.pair(0, 1, 2, 0), BAD);
        due("pair(0, 1, 0, -11)", x.pair(0, 1, 0, -11), BAD);
        due("forbid(knots, 0)", x.forbid(knots, 0), NONE);
        due("forbid(0, 16)", x.forbid(0, 16), BAD);
        due("choice(true, knots)", x.choice(true, knots), NONE);
        due("drawn(-1, 0)", x.drawn(-1, 0), NONE);
        due("share(0, q)", x.share(0, q), NO);
        due("count(6)", x.count(6), NONE);
    }
}
