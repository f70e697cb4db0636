import java.util.List;
import java.util.function.Supplier;

/** The boundaries that the document names for a new object and for the net: promises 1 to 7. */
public final class NetBoundaryTest {
    private static final int NONE = -1, BAD = -2, FULL = -3, STATE = -4;
    private static final long NO = Long.MIN_VALUE;
    private static final List<Supplier<BagTree>> ANY =
        List.of(Nets::none, Nets::small, Nets::bare, Nets::unsound, Nets::wide, Nets::full);

    public static void main(String[] args) {
        Trial.about("1: No KNOTS, an empty ROW, no BAGS");
        nothingAtFirst();
        Trial.about("At first q is 2, all MAY be, FACTORS are 0");
        lawAtFirst();
        Trial.about("1: a new object, whatever others there are");
        objectsAreApart();
        Trial.about("2: KNOTS 0, 1, .., 14 at most; FULL");
        knotsUntilFull();
        Trial.about("2: a WEIGHT 0 .. 1000; BAD: weight");
        knotWeights();
        Trial.about("2: BAD: weight; FULL: the first one that the act tells");
        knotBadBeforeFull();
        Trial.about("2: THE ROW is empty then, there are no BAGS");
        knotEmptiesRowAndTree();
        Trial.about("2: a KNOT more, and nothing else");
        knotLeavesTheRest();
        Trial.about("3: NONE");
        edgeOfNoKnot();
        Trial.about("3: BAD: they are one");
        edgeOfOne();
        Trial.about("3: a WEIGHT 0 .. 1000; BAD: weight");
        edgeWeights();
        Trial.about("3: NONE; BAD: the first one that the act tells");
        edgeNoneBeforeBad();
        Trial.about("3: at most one between the same two; 0: it was there, and has this WEIGHT now");
        edgeAgain();
        Trial.about("3: EDGES between any two KNOTS");
        allEdges();
        Trial.about("3: an EDGE more, and nothing else");
        edgeLeavesTheRest();
        Trial.about("4: NONE");
        cutOfNoEdge();
        Trial.about("4: An EDGE goes: its WEIGHT");
        cutWeights();
        Trial.about("4: an EDGE goes, and nothing else");
        cutLeavesTheRest();
        Trial.about("5: NONE; BAD");
        weighRefused();
        Trial.about("5: A KNOT's WEIGHT becomes w: what it was");
        weighAnswers();
        Trial.about("6: NONE");
        weightRefused();
        Trial.about("6: The WEIGHT of an EDGE, of a KNOT");
        weightAnswers();
        Trial.about("7: NONE");
        besideRefused();
        Trial.about("7: The MASK of KNOTS that have an EDGE with a KNOT");
        besideAnswers();
        Trial.end();
    }

    private static void due(String call, long got, long want) {
        Trial.due(call, got, want);
    }

    private static void nothingAtFirst() {
        BagTree x = new BagTree();
        int[] counts = {0, 0, 0, 0, 2, 0};
        for (int what = 0; what < 6; what++) due("count(" + what + ")", x.count(what), counts[what]);
        due("weight(0, 0)", x.weight(0, 0), NONE);
        due("beside(0)", x.beside(0), NONE);
        due("row(0)", x.row(0), NONE);
        due("wipe()", x.wipe(), 0);
        due("clear()", x.clear(), 0);
        for (int what = 0; what < 3; what++) due("bagged(0, " + what + ")", x.bagged(0, what), NONE);
        due("sound()", x.sound(), STATE);
        due("width()", x.width(), NONE);
        due("separator()", x.separator(), STATE);
        due("ways()", x.ways(), NO);
    }

    private static void lawAtFirst() {
        BagTree x = Nets.loose(1);
        for (int s = 0; s < 2; s++) {
            due("factor(" + s + ", 0)", x.factor(s, 0), 100);
            for (int t = 0; t < 2; t++) due("pair(" + s + ", " + t + ", 1, 0)", x.pair(s, t, 1, 0), 100);
        }
        due("factor(2, 0)", x.factor(2, 0), NONE);
        due("forbid(0, 0)", x.forbid(0, 0), 0);
        BagTree asked = Nets.made(Nets.path(2));
        due("ways()", asked.ways(), 4);
        due("best(true)", asked.best(true), 0);
        due("best(false)", asked.best(false), 0);
    }

    private static void objectsAreApart() {
        BagTree x = Nets.small();
        BagTree fresh = new BagTree();
        Nets.full();
        Trial.alike("a new object beside a full one", fresh, new BagTree());
        Trial.alike("a full object beside a small one", x, Nets.small());
    }

    private static void knotsUntilFull() {
        BagTree x = new BagTree();
        for (int k = 0; k < 14; k++) {
            due("knot(" + k + ")", x.knot(k), k);
            due("count(0)", x.count(0), k + 1);
            due("weight of the last one", x.weight(k, k), k);
            due("weight of the one behind it", x.weight(k + 1, k + 1), NONE);
        }
        due("knot(14)", x.knot(14), FULL);
        due("count(0)", x.count(0), 14);
        Trial.changesNothing(Nets::full, "knot(0)", y -> y.knot(0), FULL);
        Trial.changesNothing(Nets::full, "knot(1000)", y -> y.knot(1000), FULL);
        Trial.changesNothing(() -> Nets.loose(14), "knot(1)", y -> y.knot(1), FULL);
    }

    private static void knotWeights() {
        BagTree x = new BagTree();
        due("knot(0)", x.knot(0), 0);
        due("knot(1000)", x.knot(1000), 1);
        due("knot(999)", x.knot(999), 2);
        due("weight(0, 0)", x.weight(0, 0), 0);
        due("weight(1, 1)", x.weight(1, 1), 1000);
        due("weight(2, 2)", x.weight(2, 2), 999);
        for (int bad : Trial.outside(0, 1000)) {
            for (Supplier<BagTree> net : ANY) {
                Trial.changesNothing(net, "knot(" + bad + ")", y -> y.knot(bad), BAD);
            }
        }
    }

    private static void knotBadBeforeFull() {
        BagTree x = Nets.loose(13);
        due("knot(-1) before it is full", x.knot(-1), BAD);
        due("knot(1001) before it is full", x.knot(1001), BAD);
        due("knot(0), the last one", x.knot(0), 13);
        due("knot(-1) when it is full", x.knot(-1), BAD);
        due("knot(1001) when it is full", x.knot(1001), BAD);
        due("knot(0) when it is full", x.knot(0), FULL);
    }

    private static void knotEmptiesRowAndTree() {
        for (int knots = 1; knots < 14; knots++) {
            BagTree x = Nets.made(Nets.path(knots));
            due("knot(5)", x.knot(5), knots);
            due("count(2)", x.count(2), 0);
            due("count(3)", x.count(3), 0);
            due("count(5)", x.count(5), 0);
            due("row(0)", x.row(0), NONE);
            due("bagged(0, 0)", x.bagged(0, 0), NONE);
            due("sound()", x.sound(), STATE);
            due("make()", x.make(), STATE);
            due("ways()", x.ways(), NO);
            for (int k = 0; k <= knots; k++) due("put(" + k + ") anew", x.put(k), k + 1);
            due("bag(1) anew", x.bag(1), 0);
            due("bagged(0, 1) anew", x.bagged(0, 1), NONE);
        }
    }

    private static void knotLeavesTheRest() {
        BagTree x = Nets.small();
        due("knot(8)", x.knot(8), 3);
        due("weight(0, 1)", x.weight(0, 1), 11);
        due("weight(1, 2)", x.weight(1, 2), 12);
        due("weight(2, 2)", x.weight(2, 2), 3);
        due("count(1)", x.count(1), 2);
        due("beside(3)", x.beside(3), 0);
        due("count(4)", x.count(4), 3);
        due("factor(2, 0)", x.factor(2, 0), 102);
        due("pair(0, 0, 1, 0)", x.pair(0, 0, 1, 0), 0);
        due("forbid(0, 0)", x.forbid(0, 0), 9);
        due("forbid(2, 0)", x.forbid(2, 0), 4);
        due("forbid(3, 0)", x.forbid(3, 0), 0);
    }

    private static void edgeOfNoKnot() {
        for (Supplier<BagTree> net : ANY) {
            int knots = net.get().count(0);
            for (int no : Trial.outside(0, knots - 1)) {
                Trial.changesNothing(net, "edge(0, " + no + ", 1)", y -> y.edge(0, no, 1), NONE);
                Trial.changesNothing(net, "edge(" + no + ", 0, 1)", y -> y.edge(no, 0, 1), NONE);
            }
        }
        BagTree x = Nets.loose(2);
        due("edge(1, 2, 1) before there is a third", x.edge(1, 2, 1), NONE);
        x.knot(1);
        due("edge(1, 2, 1) when there is", x.edge(1, 2, 1), 1);
    }

    private static void edgeOfOne() {
        for (int k = 0; k < 14; k++) {
            int knot = k;
            Trial.changesNothing(Nets::full, "edge(" + k + ", " + k + ", 1)", y -> y.edge(knot, knot, 1), BAD);
        }
        Trial.changesNothing(() -> Nets.loose(1), "edge(0, 0, 0)", y -> y.edge(0, 0, 0), BAD);
    }

    private static void edgeWeights() {
        for (int w : new int[] {0, 1, 999, 1000}) {
            BagTree x = Nets.loose(2);
            due("edge(0, 1, " + w + ")", x.edge(0, 1, w), 1);
            due("weight(0, 1)", x.weight(0, 1), w);
            due("edge(1, 0, " + (1000 - w) + ")", x.edge(1, 0, 1000 - w), 0);
            due("weight(0, 1)", x.weight(0, 1), 1000 - w);
        }
        for (int bad : Trial.outside(0, 1000)) {
            Trial.changesNothing(Nets::small, "edge(0, 2, " + bad + "), a new one", y -> y.edge(0, 2, bad), BAD);
            Trial.changesNothing(Nets::small, "edge(1, 0, " + bad + "), one that is", y -> y.edge(1, 0, bad), BAD);
            Trial.changesNothing(Nets::full, "edge(0, 13, " + bad + ")", y -> y.edge(0, 13, bad), BAD);
        }
    }

    private static void edgeNoneBeforeBad() {
        for (int bad : new int[] {-1, 1001}) {
            Trial.changesNothing(Nets::small, "edge(0, 3, " + bad + ")", y -> y.edge(0, 3, bad), NONE);
            Trial.changesNothing(Nets::small, "edge(-1, 0, " + bad + ")", y -> y.edge(-1, 0, bad), NONE);
            Trial.changesNothing(Nets::small, "edge(3, 3, " + bad + ")", y -> y.edge(3, 3, bad), NONE);
            Trial.changesNothing(Nets::small, "edge(2, 2, " + bad + ")", y -> y.edge(2, 2, bad), BAD);
        }
        Trial.changesNothing(Nets::small, "edge(3, 3, 1)", y -> y.edge(3, 3, 1), NONE);
        Trial.changesNothing(Nets::full, "edge(14, 14, 1)", y -> y.edge(14, 14, 1), NONE);
        Trial.changesNothing(Nets::none, "edge(0, 0, 1)", y -> y.edge(0, 0, 1), NONE);
        Trial.changesNothing(Nets::none, "edge(-1, -1, -1)", y -> y.edge(-1, -1, -1), NONE);
    }

    private static void edgeAgain() {
        BagTree x = Nets.loose(14);
        due("edge(13, 0, 4)", x.edge(13, 0, 4), 1);
        due("edge(13, 0, 4) again", x.edge(13, 0, 4), 0);
        due("edge(0, 13, 6), the other way round", x.edge(0, 13, 6), 0);
        due("count(1)", x.count(1), 1);
        due("weight(13, 0)", x.weight(13, 0), 6);
        due("edge(0, 13, 0)", x.edge(0, 13, 0), 0);
        due("weight(13, 0)", x.weight(13, 0), 0);
        due("cut(13, 0)", x.cut(13, 0), 0);
        due("edge(0, 13, 7) when it was cut", x.edge(0, 13, 7), 1);
        due("count(1)", x.count(1), 1);
    }

    private static void allEdges() {
        BagTree x = Nets.loose(14);
        int edges = 0;
        for (int a = 0; a < 14; a++) {
            for (int b = 0; b < a; b++) {
                due("edge(" + a + ", " + b + ")", x.edge(a, b, 14 * a + b), 1);
                edges++;
            }
            due("count(1)", x.count(1), edges);
        }
        due("count(1)", x.count(1), 91);
        for (int a = 0; a < 14; a++) {
            for (int b = 0; b < a; b++) due("weight(" + b + ", " + a + ")", x.weight(b, a), 14 * a + b);
            due("beside(" + a + ")", x.beside(a), 16383 & ~(1 << a));
            due("weight(" + a + ", " + a + ")", x.weight(a, a), a + 1);
        }
    }

    /** An edge that is there and has the same weight again is as good as no call. */
    private static void edgeLeavesTheRest() {
        Trial.changesNothing(Nets::small, "edge(1, 0, 11)", y -> y.edge(1, 0, 11), 0);
        BagTree x = Nets.small();
        due("edge(0, 2, 5)", x.edge(0, 2, 5), 1);
        due("row(1)", x.row(1), 0);
        due("count(2)", x.count(2), 2);
        due("count(3)", x.count(3), 4);
        due("bagged(0, 1)", x.bagged(0, 1), 2);
        due("count(5)", x.count(5), 0);
        due("cut(2, 0)", x.cut(2, 0), 5);
        Trial.alike("edge(0, 2, 5) and cut(2, 0)", x, Nets.small());
    }

    private static void cutOfNoEdge() {
        for (Supplier<BagTree> net : ANY) {
            int knots = net.get().count(0);
            for (int no : Trial.outside(0, knots - 1)) {
                Trial.changesNothing(net, "cut(0, " + no + ")", y -> y.cut(0, no), NONE);
                Trial.changesNothing(net, "cut(" + no + ", 0)", y -> y.cut(no, 0), NONE);
                Trial.changesNothing(net, "cut(" + no + ", " + no + ")", y -> y.cut(no, no), NONE);
            }
            for (int k = 0; k < knots; k++) {
                int knot = k;
                Trial.changesNothing(net, "cut(" + k + ", " + k + ")", y -> y.cut(knot, knot), NONE);
            }
        }
        Trial.changesNothing(Nets::small, "cut(0, 2) without an edge", y -> y.cut(0, 2), NONE);
        Trial.changesNothing(Nets::full, "cut(13, 8) without an edge", y -> y.cut(13, 8), NONE);
        BagTree x = Nets.path(2);
        due("cut(0, 1)", x.cut(0, 1), 1);
        due("cut(0, 1) again", x.cut(0, 1), NONE);
        due("cut(1, 0) again", x.cut(1, 0), NONE);
        due("count(1)", x.count(1), 0);
    }

    private static void cutWeights() {
        BagTree x = Nets.loose(14);
        for (int w : new int[] {0, 1, 999, 1000}) {
            x.edge(12, 13, w);
            due("cut(13, 12) of " + w, x.cut(13, 12), w);
            due("weight(12, 13)", x.weight(12, 13), NONE);
        }
        BagTree all = Nets.clique(14);
        int edges = 91;
        for (int a = 0; a < 14; a++) {
            for (int b = a + 1; b < 14; b++) {
                due("cut(" + a + ", " + b + ")", all.cut(a, b), 1);
                edges--;
            }
            due("count(1)", all.count(1), edges);
            due("beside(" + a + ")", all.beside(a), 0);
        }
        due("count(1)", all.count(1), 0);
    }

    private static void cutLeavesTheRest() {
        BagTree x = Nets.small();
        due("cut(2, 1)", x.cut(2, 1), 12);
        due("weight(0, 1)", x.weight(0, 1), 11);
        due("beside(1)", x.beside(1), 1);
        due("beside(2)", x.beside(2), 0);
        due("count(2)", x.count(2), 2);
        due("count(3)", x.count(3), 4);
        due("count(5)", x.count(5), 1);
        due("edge(1, 2, 12)", x.edge(1, 2, 12), 1);
        Trial.alike("cut(2, 1) and edge(1, 2, 12)", x, Nets.small());
    }

    private static void weighRefused() {
        for (Supplier<BagTree> net : ANY) {
            int knots = net.get().count(0);
            for (int no : Trial.outside(0, knots - 1)) {
                Trial.changesNothing(net, "weigh(" + no + ", 7)", y -> y.weigh(no, 7), NONE);
                Trial.changesNothing(net, "weigh(" + no + ", -1)", y -> y.weigh(no, -1), NONE);
                Trial.changesNothing(net, "weigh(" + no + ", 1001)", y -> y.weigh(no, 1001), NONE);
            }
        }
        for (int bad : Trial.outside(0, 1000)) {
            Trial.changesNothing(Nets::small, "weigh(0, " + bad + ")", y -> y.weigh(0, bad), BAD);
            Trial.changesNothing(Nets::full, "weigh(13, " + bad + ")", y -> y.weigh(13, bad), BAD);
        }
    }

    private static void weighAnswers() {
        BagTree x = Nets.loose(14);
        for (int k : new int[] {0, 13}) {
            int was = k + 1;
            for (int w : new int[] {0, 1000, 1, 999, 0}) {
                due("weigh(" + k + ", " + w + ")", x.weigh(k, w), was);
                due("weight(" + k + ", " + k + ")", x.weight(k, k), w);
                was = w;
            }
        }
        due("weight(1, 1)", x.weight(1, 1), 2);
        due("weight(12, 12)", x.weight(12, 12), 13);
        BagTree same = Nets.small();
        due("weigh(1, 500)", same.weigh(1, 500), 2);
        due("count(3): THE TREE stays", same.count(3), 4);
        due("weigh(1, 2)", same.weigh(1, 2), 500);
        Trial.alike("weigh(1, 500) and back", same, Nets.small());
    }

    private static void weightRefused() {
        for (Supplier<BagTree> net : ANY) {
            int knots = net.get().count(0);
            for (int no : Trial.outside(0, knots - 1)) {
                Trial.changesNothing(net, "weight(0, " + no + ")", y -> y.weight(0, no), NONE);
                Trial.changesNothing(net, "weight(" + no + ", 0)", y -> y.weight(no, 0), NONE);
                Trial.changesNothing(net, "weight(" + no + ", " + no + ")", y -> y.weight(no, no), NONE);
            }
        }
        Trial.changesNothing(Nets::small, "weight(0, 2) without an edge", y -> y.weight(0, 2), NONE);
        Trial.changesNothing(Nets::full, "weight(0, 5) without an edge", y -> y.weight(0, 5), NONE);
    }

    private static void weightAnswers() {
        BagTree x = Nets.loose(2);
        x.weigh(0, 0);
        x.edge(0, 1, 0);
        due("weight(0, 0) of weight 0", x.weight(0, 0), 0);
        due("weight(0, 1) of weight 0", x.weight(0, 1), 0);
        due("weight(1, 0) of weight 0", x.weight(1, 0), 0);
        x.weigh(0, 1000);
        x.edge(0, 1, 1000);
        due("weight(0, 0) of weight 1000", x.weight(0, 0), 1000);
        due("weight(1, 0) of weight 1000", x.weight(1, 0), 1000);
        due("weight(1, 1)", x.weight(1, 1), 2);
        x.cut(0, 1);
        due("weight(1, 0) when it is cut", x.weight(1, 0), NONE);
        Trial.changesNothing(Nets::full, "weight(13, 12)", y -> y.weight(13, 12), 25);
        Trial.changesNothing(Nets::full, "weight(13, 13)", y -> y.weight(13, 13), 14);
    }

    private static void besideRefused() {
        for (Supplier<BagTree> net : ANY) {
            int knots = net.get().count(0);
            for (int no : Trial.outside(0, knots - 1)) {
                Trial.changesNothing(net, "beside(" + no + ")", y -> y.beside(no), NONE);
            }
        }
    }

    private static void besideAnswers() {
        due("beside(0) of one alone", Nets.loose(1).beside(0), 0);
        due("beside(13) of one alone", Nets.loose(14).beside(13), 0);
        due("beside(0) of all others", Nets.star(14).beside(0), 16382);
        due("beside(13) of a star", Nets.star(14).beside(13), 1);
        due("beside(13) of a ring", Nets.ring(14).beside(13), 1 << 12 | 1);
        Trial.changesNothing(Nets::full, "beside(13)", y -> y.beside(13), 15 << 9);
        // To let knots go makes neighbours, but no edges.
        BagTree x = Nets.withRow(Nets.star(4), 0, 1, 2, 3);
        due("fills()", x.fills(), 3);
        due("make()", x.make(), 3);
        due("beside(1) behind fills", x.beside(1), 1);
        due("beside(0) when it was let go", x.beside(0), 14);
    }
}
