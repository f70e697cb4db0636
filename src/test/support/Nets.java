/** Nets that the tests of boundaries begin with. Each call makes a new object, always by the same calls. */
final class Nets {
    private Nets() {
    }

    static BagTree none() {
        return new BagTree();
    }

    static BagTree loose(int knots) {
        BagTree x = new BagTree();
        for (int k = 0; k < knots; k++) x.knot(k + 1);
        return x;
    }

    /** Knots 0 - 1 - .. one behind the other. */
    static BagTree path(int knots) {
        BagTree x = loose(knots);
        for (int k = 1; k < knots; k++) x.edge(k - 1, k, 1);
        return x;
    }

    static BagTree ring(int knots) {
        BagTree x = path(knots);
        x.edge(0, knots - 1, 1);
        return x;
    }

    /** Knot 0 in the middle of all others. */
    static BagTree star(int knots) {
        BagTree x = loose(knots);
        for (int k = 1; k < knots; k++) x.edge(0, k, 1);
        return x;
    }

    static BagTree clique(int knots) {
        BagTree x = loose(knots);
        for (int a = 0; a < knots; a++) {
            for (int b = 0; b < a; b++) x.edge(a, b, 1);
        }
        return x;
    }

    /** The same object with the tree of the order of fewest(). */
    static BagTree made(BagTree x) {
        x.fewest();
        x.make();
        return x;
    }

    static BagTree withRow(BagTree x, int... knots) {
        for (int knot : knots) x.put(knot);
        return x;
    }

    static BagTree withBags(BagTree x, int... masks) {
        for (int mask : masks) x.bag(mask);
        return x;
    }

    /** A law in which no factor is 0, as all are at first, two states may not be, and some are forbidden. */
    private static void tellLaw(BagTree x, int q) {
        x.states(q);
        for (int s = 0; s < q; s++) {
            x.factor(s, 3 * s - 4);
            for (int t = s; t < q; t++) x.pair(s, t, s == 0 && t == 0 ? 0 : 1, 2 * t - 4 * s + 1);
        }
        int knots = x.count(0);
        if (knots > 0) x.forbid(0, 8 | 1);
        if (knots > 1) x.forbid(knots - 1, 4);
    }

    /** Three knots, a row that lacks one of them, a sound tree of four bags, three states. */
    static BagTree small() {
        BagTree x = loose(3);
        x.edge(0, 1, 11);
        x.edge(1, 2, 12);
        withRow(x, 2, 0);
        withBags(x, 3, 2, 6, 4);
        x.hang(0, 2);
        tellLaw(x, 3);
        return x;
    }

    /** Five knots, a row that lacks the first and the last of them, a sound tree whose first bag has neither 0 nor 1. */
    static BagTree uneven() {
        BagTree x = path(5);
        x.edge(1, 3, 13);
        withRow(x, 3, 1);
        withBags(x, 24, 14, 2, 3);
        x.hang(1, 3);
        tellLaw(x, 3);
        return x;
    }

    /** Knots, edges, a whole row and a law, but no tree. */
    static BagTree bare() {
        BagTree x = path(4);
        x.least();
        tellLaw(x, 3);
        return x;
    }

    /** A tree that is not sound, as an edge has come. */
    static BagTree unsound() {
        BagTree x = made(path(4));
        x.edge(0, 3, 2);
        tellLaw(x, 3);
        return x;
    }

    /** A sound tree of width 5. */
    static BagTree wide() {
        BagTree x = made(clique(6));
        tellLaw(x, 2);
        return x;
    }

    /** As many knots, bags and states as there can be, a whole row, and a sound tree of width 4. */
    static BagTree full() {
        BagTree x = loose(14);
        for (int a = 0; a < 14; a++) {
            for (int b = Math.max(0, a - 4); b < a; b++) x.edge(a, b, a + b);
        }
        made(x);
        tellLaw(x, 4);
        return x;
    }

    /** A sound tree, but no way, as a knot has no state left. */
    static BagTree wayless() {
        BagTree x = small();
        x.forbid(1, 7);
        return x;
    }
}
