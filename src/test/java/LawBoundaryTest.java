import java.util.List;
import java.util.function.Supplier;

/** The boundaries that the document names for the law: promises 23 to 26. */
public final class LawBoundaryTest {
    private static final int NONE = -1, BAD = -2;
    private static final List<Supplier<BagTree>> ANY =
        List.of(Nets::none, Nets::small, Nets::bare, Nets::unsound, Nets::wide, Nets::full);

    public static void main(String[] args) {
        Trial.about("23: BAD: not 1 .. 4");
        statesRefused();
        Trial.about("23: q becomes n: what it was");
        statesAnswers();
        Trial.about("23: all MAY be, FACTORS are 0, nothing is FORBIDDEN");
        statesBeginAnew();
        Trial.about("23: the law begins anew, and nothing else");
        statesLeavesTheRest();
        Trial.about("24: NONE");
        factorOfNoState();
        Trial.about("24: FACTOR -10 .. 10; BAD");
        factorsOutside();
        Trial.about("24: NONE; BAD: the first one that the act tells");
        factorNoneBeforeBad();
        Trial.about("24: A STATE's FACTOR: what it was, and 100");
        factorAnswers();
        Trial.about("25: NONE");
        pairOfNoState();
        Trial.about("25: BAD: may not 0, 1");
        pairMayOutside();
        Trial.about("25: FACTOR -10 .. 10; BAD: f");
        pairFactorsOutside();
        Trial.about("25: NONE; BAD: the first one that the act tells");
        pairNoneBeforeBad();
        Trial.about("25: What it was, and 100 (0: they might not)");
        pairAnswers();
        Trial.about("25: for each two (also alike, either way round)");
        pairEitherWay();
        Trial.about("25: may 0: they may not be");
        pairBars();
        Trial.about("26: NONE");
        forbidNoKnot();
        Trial.about("26: BAD: not 0 .. 15");
        forbidBitsOutside();
        Trial.about("26: NONE; BAD: the first one that the act tells");
        forbidNoneBeforeBad();
        Trial.about("26: what they were");
        forbidAnswers();
        Trial.about("26: The STATES that are FORBIDDEN for a KNOT (bits 0 to 3 of a number)");
        forbidForbids();
        Trial.end();
    }

    private static void due(String call, long got, long want) {
        Trial.due(call, got, want);
    }

    // ---- states

    private static void statesRefused() {
        for (int bad : Trial.outside(1, 4)) {
            for (Supplier<BagTree> net : ANY) {
                Trial.changesNothing(net, "states(" + bad + ")", y -> y.states(bad), BAD);
            }
        }
    }

    private static void statesAnswers() {
        BagTree x = Nets.made(Nets.loose(2));
        int was = 2;
        for (int n : new int[] {1, 4, 2, 3, 3, 4, 4, 1, 1, 2}) {
            due("states(" + n + ")", x.states(n), was);
            due("count(4)", x.count(4), n);
            due("ways()", x.ways(), n * n);
            due("factor(" + (n - 1) + ", 0)", x.factor(n - 1, 0), 100);
            due("factor(" + n + ", 0)", x.factor(n, 0), NONE);
            was = n;
        }
        due("states(1) without knots", new BagTree().states(1), 2);
    }

    /** For each number of states before and behind: nothing of the law of before is left. */
    private static void statesBeginAnew() {
        for (int before = 1; before <= 4; before++) {
            for (int behind = 1; behind <= 4; behind++) {
                BagTree x = Nets.loose(14);
                x.states(before);
                for (int s = 0; s < before; s++) {
                    x.factor(s, 10);
                    for (int t = 0; t <= s; t++) x.pair(s, t, (s + t) % 2, -10);
                }
                for (int k = 0; k < 14; k++) x.forbid(k, 15);
                due("states(" + behind + ")", x.states(behind), before);
                for (int s = 0; s < behind; s++) {
                    due("factor(" + s + ", 0)", x.factor(s, 0), 100);
                    for (int t = 0; t < behind; t++) due("pair(" + s + ", " + t + ")", x.pair(s, t, 1, 0), 100);
                }
                for (int k = 0; k < 14; k++) due("forbid(" + k + ", 0)", x.forbid(k, 0), 0);
            }
        }
        // A law that goes down and up again does not bring back what it was.
        BagTree x = Nets.made(Nets.path(2));
        x.states(4);
        x.pair(3, 3, 0, 1);
        x.factor(3, 7);
        x.states(1);
        x.states(4);
        due("ways()", x.ways(), 16);
        due("best(true)", x.best(true), 0);
    }

    private static void statesLeavesTheRest() {
        BagTree x = Nets.small();
        due("states(2)", x.states(2), 3);
        due("weight(0, 1)", x.weight(0, 1), 11);
        due("weight(2, 2)", x.weight(2, 2), 3);
        due("row(0)", x.row(0), 2);
        due("count(2)", x.count(2), 2);
        due("count(3)", x.count(3), 4);
        due("bagged(0, 1)", x.bagged(0, 1), 2);
        due("count(5)", x.count(5), 1);
        due("ways()", x.ways(), 8);
    }

    // ---- factor

    private static void factorOfNoState() {
        for (int q = 1; q <= 4; q++) {
            int states = q;
            for (int no : Trial.outside(0, q - 1)) {
                Trial.changesNothing(() -> withStates(states), "factor(" + no + ", 1) of " + q, y -> y.factor(no, 1), NONE);
            }
        }
    }

    private static BagTree withStates(int q) {
        BagTree x = Nets.made(Nets.path(3));
        x.states(q);
        for (int s = 0; s < q; s++) {
            x.factor(s, s + 1);
            for (int t = s; t < q; t++) x.pair(s, t, 1, s + t + 1);
        }
        return x;
    }

    private static void factorsOutside() {
        for (int bad : Trial.outside(-10, 10)) {
            Trial.changesNothing(Nets::none, "factor(1, " + bad + ")", y -> y.factor(1, bad), BAD);
            Trial.changesNothing(Nets::small, "factor(0, " + bad + ")", y -> y.factor(0, bad), BAD);
            Trial.changesNothing(Nets::full, "factor(3, " + bad + ")", y -> y.factor(3, bad), BAD);
        }
    }

    private static void factorNoneBeforeBad() {
        for (int bad : new int[] {-11, 11, Trial.LOW, Trial.HIGH}) {
            Trial.changesNothing(Nets::none, "factor(2, " + bad + ")", y -> y.factor(2, bad), NONE);
            Trial.changesNothing(Nets::small, "factor(-1, " + bad + ")", y -> y.factor(-1, bad), NONE);
            Trial.changesNothing(Nets::full, "factor(4, " + bad + ")", y -> y.factor(4, bad), NONE);
        }
    }

    private static void factorAnswers() {
        for (int q = 1; q <= 4; q++) {
            for (int s = 0; s < q; s++) {
                BagTree x = Nets.made(Nets.loose(1));
                x.states(q);
                x.weigh(0, 1000);
                x.forbid(0, 15 & ~(1 << s));
                int was = 0;
                for (int f = -10; f <= 10; f++) {
                    due("factor(" + s + ", " + f + ")", x.factor(s, f), was + 100);
                    due("best(true)", x.best(true), 1000L * f);
                    was = f;
                }
                for (int other = 0; other < q; other++) {
                    due("factor(" + other + ", 0)", x.factor(other, 0), other == s ? 110 : 100);
                }
            }
        }
    }

    // ---- pair

    private static void pairOfNoState() {
        for (int q = 1; q <= 4; q++) {
            int states = q, last = q - 1;
            Supplier<BagTree> net = () -> withStates(states);
            for (int no : Trial.outside(0, q - 1)) {
                Trial.changesNothing(net, "pair(0, " + no + ", 1, 0) of " + q, y -> y.pair(0, no, 1, 0), NONE);
                Trial.changesNothing(net, "pair(" + no + ", 0, 0, 0) of " + q, y -> y.pair(no, 0, 0, 0), NONE);
                Trial.changesNothing(net, "pair(" + no + ", last, 1, 0) of " + q, y -> y.pair(no, last, 1, 0), NONE);
                Trial.changesNothing(net, "pair(" + no + ", as it, 1, 0) of " + q, y -> y.pair(no, no, 1, 0), NONE);
            }
        }
    }

    private static void pairMayOutside() {
        for (int bad : Trial.outside(0, 1)) {
            Trial.changesNothing(Nets::none, "pair(0, 1, " + bad + ", 0)", y -> y.pair(0, 1, bad, 0), BAD);
            Trial.changesNothing(Nets::small, "pair(2, 2, " + bad + ", 5)", y -> y.pair(2, 2, bad, 5), BAD);
            Trial.changesNothing(Nets::small, "pair(0, 0, " + bad + ", 5)", y -> y.pair(0, 0, bad, 5), BAD);
            Trial.changesNothing(Nets::full, "pair(3, 0, " + bad + ", 5)", y -> y.pair(3, 0, bad, 5), BAD);
        }
    }

    private static void pairFactorsOutside() {
        for (int bad : Trial.outside(-10, 10)) {
            Trial.changesNothing(Nets::small, "pair(1, 2, 1, " + bad + ")", y -> y.pair(1, 2, 1, bad), BAD);
            Trial.changesNothing(Nets::small, "pair(1, 2, 0, " + bad + ")", y -> y.pair(1, 2, 0, bad), BAD);
            Trial.changesNothing(Nets::small, "pair(0, 0, 0, " + bad + ")", y -> y.pair(0, 0, 0, bad), BAD);
            Trial.changesNothing(Nets::full, "pair(3, 3, 1, " + bad + ")", y -> y.pair(3, 3, 1, bad), BAD);
        }
    }

    private static void pairNoneBeforeBad() {
        for (int may : new int[] {-1, 0, 1, 2}) {
            for (int f : new int[] {-11, 0, 11}) {
                String rest = ", " + may + ", " + f + ")";
                Trial.changesNothing(Nets::none, "pair(2, 0" + rest, y -> y.pair(2, 0, may, f), NONE);
                Trial.changesNothing(Nets::none, "pair(0, 2" + rest, y -> y.pair(0, 2, may, f), NONE);
                Trial.changesNothing(Nets::small, "pair(3, 3" + rest, y -> y.pair(3, 3, may, f), NONE);
                Trial.changesNothing(Nets::small, "pair(-1, 0" + rest, y -> y.pair(-1, 0, may, f), NONE);
                Trial.changesNothing(Nets::full, "pair(0, 4" + rest, y -> y.pair(0, 4, may, f), NONE);
            }
        }
    }

    private static void pairAnswers() {
        BagTree x = new BagTree();
        int was = 100;
        for (int f = -10; f <= 10; f++) {
            due("pair(0, 1, 1, " + f + ")", x.pair(0, 1, 1, f), was);
            was = f + 100;
        }
        due("pair(0, 1, 0, 10)", x.pair(0, 1, 0, 10), 110);
        due("pair(0, 1, 0, -10) when they may not", x.pair(0, 1, 0, -10), 0);
        due("pair(0, 1, 1, -10) when they may not", x.pair(0, 1, 1, -10), 0);
        due("pair(0, 1, 1, 0)", x.pair(0, 1, 1, 0), 90);
        due("pair(0, 1, 1, 0)", x.pair(0, 1, 1, 0), 100);
    }

    private static void pairEitherWay() {
        for (int q = 1; q <= 4; q++) {
            BagTree x = new BagTree();
            x.states(q);
            for (int s = 0; s < q; s++) {
                for (int t = s; t < q; t++) due("pair(" + s + ", " + t + ")", x.pair(s, t, 1, 2 * s + t - 5), 100);
            }
            for (int s = 0; s < q; s++) {
                for (int t = s; t < q; t++) due("pair(" + t + ", " + s + ")", x.pair(t, s, 0, 0), 2 * s + t + 95);
            }
            for (int s = 0; s < q; s++) {
                for (int t = s; t < q; t++) due("pair(" + s + ", " + t + ") again", x.pair(s, t, 1, 0), 0);
            }
        }
        // The factor counts whichever of the two knots has which state.
        BagTree x = Nets.made(Nets.path(2));
        x.edge(0, 1, 1000);
        x.pair(1, 0, 1, 10);
        due("best(true)", x.best(true), 10000);
        due("bests(true)", x.bests(true), 2);
        x.pair(0, 1, 1, -10);
        due("best(false)", x.best(false), -10000);
        due("bests(false)", x.bests(false), 2);
    }

    private static void pairBars() {
        BagTree x = Nets.made(Nets.path(2));
        x.states(4);
        due("ways()", x.ways(), 16);
        x.pair(2, 2, 0, 0);
        due("ways() without two alike", x.ways(), 15);
        x.pair(1, 3, 0, 0);
        due("ways() without two unlike", x.ways(), 13);
        x.pair(3, 1, 1, 0);
        due("ways() with them again", x.ways(), 15);
        // What may not be at an edge may be where there is none.
        x.cut(0, 1);
        due("ways() without an edge", x.ways(), 16);
        // A weight of 0 is an edge still.
        x.edge(0, 1, 0);
        due("ways() with an edge of weight 0", x.ways(), 15);
        BagTree one = Nets.made(Nets.path(2));
        one.states(1);
        one.pair(0, 0, 0, 0);
        due("ways() when nothing may be", one.ways(), 0);
    }

    // ---- forbid

    private static void forbidNoKnot() {
        for (Supplier<BagTree> net : ANY) {
            int knots = net.get().count(0);
            for (int no : Trial.outside(0, knots - 1)) {
                Trial.changesNothing(net, "forbid(" + no + ", 1)", y -> y.forbid(no, 1), NONE);
                Trial.changesNothing(net, "forbid(" + no + ", 0)", y -> y.forbid(no, 0), NONE);
            }
        }
    }

    private static void forbidBitsOutside() {
        for (int bad : Trial.outside(0, 15)) {
            Trial.changesNothing(Nets::small, "forbid(0, " + bad + ")", y -> y.forbid(0, bad), BAD);
            Trial.changesNothing(Nets::full, "forbid(13, " + bad + ")", y -> y.forbid(13, bad), BAD);
        }
    }

    private static void forbidNoneBeforeBad() {
        for (int bad : new int[] {-1, 16, Trial.LOW, Trial.HIGH}) {
            Trial.changesNothing(Nets::none, "forbid(0, " + bad + ")", y -> y.forbid(0, bad), NONE);
            Trial.changesNothing(Nets::small, "forbid(3, " + bad + ")", y -> y.forbid(3, bad), NONE);
            Trial.changesNothing(Nets::full, "forbid(14, " + bad + ")", y -> y.forbid(14, bad), NONE);
            Trial.changesNothing(Nets::full, "forbid(-1, " + bad + ")", y -> y.forbid(-1, bad), NONE);
        }
    }

    private static void forbidAnswers() {
        BagTree x = Nets.loose(14);
        for (int k : new int[] {0, 13}) {
            int was = 0;
            for (int bits = 15; bits >= 0; bits--) {
                due("forbid(" + k + ", " + bits + ")", x.forbid(k, bits), was);
                was = bits;
            }
        }
        for (int k = 1; k < 13; k++) due("forbid(" + k + ", 0) of another", x.forbid(k, 0), 0);
        // All four bits are told again, though there is one state only.
        x.states(1);
        due("forbid(5, 14)", x.forbid(5, 14), 0);
        due("forbid(5, 1)", x.forbid(5, 1), 14);
        due("forbid(5, 15)", x.forbid(5, 15), 1);
        due("forbid(5, 0)", x.forbid(5, 0), 15);
    }

    /** Each number of states with each number of bits, at the first knot and at the last one. */
    private static void forbidForbids() {
        for (int q = 1; q <= 4; q++) {
            for (int k : new int[] {0, 2}) {
                BagTree x = Nets.made(Nets.loose(3));
                x.states(q);
                for (int bits = 0; bits < 16; bits++) {
                    x.forbid(k, bits);
                    int left = q - Integer.bitCount(bits & (1 << q) - 1);
                    due("ways() with " + bits + " of " + q, x.ways(), left * q * q);
                    for (int s = 0; s < q; s++) {
                        due("share(" + k + ", " + s + ")", x.share(k, s), (bits >> s & 1) == 1 ? 0 : q * q);
                    }
                }
            }
        }
    }
}
