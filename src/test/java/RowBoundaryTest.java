import java.util.List;
import java.util.function.Supplier;

/** The boundaries that the document names for rows, orders and widths: promises 8 to 15. */
public final class RowBoundaryTest {
    private static final int NONE = -1, BAD = -2, STATE = -4;
    private static final List<Supplier<BagTree>> ANY =
        List.of(Nets::none, Nets::small, Nets::bare, Nets::unsound, Nets::wide, Nets::full);

    public static void main(String[] args) {
        Trial.about("8: NONE");
        putNoKnot();
        Trial.about("8: all unlike; BAD: it is in it");
        putTwice();
        Trial.about("8: A KNOT comes to THE ROW: how many it has");
        putAll();
        Trial.about("9: THE ROW is empty: how many it had");
        wipeAnswers();
        Trial.about("9: THE ROW is empty, and nothing else changes");
        wipeLeavesTheRest();
        Trial.about("10: STATE: there are no KNOTS");
        makeWithoutKnots();
        Trial.about("10: STATE: THE ROW is no ORDER");
        makeWithoutOrder();
        Trial.about("10: THE TREE is that of THE ROW");
        makeOfFewAndMany();
        Trial.about("its UP is the BAG of that KNOT in it that goes next behind");
        upGoesNext();
        Trial.about("if it has no other KNOT: the BAG behind it (of the last one none)");
        upOfOneAlone();
        Trial.about("all KNOTS that are its NEIGHBOURS then (of those that are not gone)");
        bagsOfThoseLeft();
        Trial.about("10: THE TREE is that of THE ROW, whatever it was");
        makeAnew();
        Trial.about("11: NONE: it is no ORDER");
        fillsWithoutOrder();
        Trial.about("11: a pair that comes to be so is a FILL");
        fillsCounted();
        Trial.about("11: fills() changes nothing");
        fillsChangesNothing();
        Trial.about("12: -1 without KNOTS");
        fewestWithoutKnots();
        Trial.about("12: the fewest NEIGHBOURS then (of several the least)");
        fewestOrder();
        Trial.about("12: THE ROW is the ORDER, whatever it was; THE TREE stays");
        fewestLeavesTheRest();
        Trial.about("13: 0 KNOTS: -1");
        leastWithoutKnots();
        Trial.about("13: THE LEAST WIDTH");
        leastWidths();
        Trial.about("13: THE LEAST WIDTH, however the KNOTS are numbered");
        leastOfAllNumberings(new int[6], 0, 0);
        Trial.about("13: the least first KNOT, of these the least second one, and so on");
        bestOrders();
        Trial.about("13: THE ROW is THE BEST ORDER, whatever it was; THE TREE stays");
        leastLeavesTheRest();
        Trial.about("14: NONE");
        rowRefused();
        Trial.about("14: KNOT i of THE ROW");
        rowAnswers();
        Trial.about("15: -1 without KNOTS");
        belowWithoutKnots();
        Trial.about("15: the most EDGES that one had when it was taken away");
        belowAnswers();
        Trial.end();
    }

    private static void due(String call, long got, long want) {
        Trial.due(call, got, want);
    }

    private static void rowIs(BagTree x, int... knots) {
        due("count(2)", x.count(2), knots.length);
        for (int i = 0; i < knots.length; i++) due("row(" + i + ")", x.row(i), knots[i]);
        due("row(" + knots.length + ")", x.row(knots.length), NONE);
    }

    private static void bagsAre(BagTree x, int... masksAndUps) {
        due("count(3)", x.count(3), masksAndUps.length / 2);
        for (int i = 0; i < masksAndUps.length / 2; i++) {
            due("bagged(" + i + ", 0)", x.bagged(i, 0), masksAndUps[2 * i]);
            due("bagged(" + i + ", 1)", x.bagged(i, 1), masksAndUps[2 * i + 1]);
        }
    }

    private static int[] upTo(int knots) {
        int[] all = new int[knots];
        for (int k = 0; k < knots; k++) all[k] = k;
        return all;
    }

    // ---- put and wipe

    private static void putNoKnot() {
        for (Supplier<BagTree> net : ANY) {
            int knots = net.get().count(0);
            for (int no : Trial.outside(0, knots - 1)) {
                Trial.changesNothing(net, "put(" + no + ")", y -> y.put(no), NONE);
            }
        }
        BagTree x = Nets.loose(2);
        due("put(2) before there is a third", x.put(2), NONE);
        x.knot(1);
        due("put(2) when there is", x.put(2), 1);
    }

    private static void putTwice() {
        Trial.changesNothing(Nets::small, "put(2), the first one", y -> y.put(2), BAD);
        Trial.changesNothing(Nets::small, "put(0), the last one", y -> y.put(0), BAD);
        for (int k = 0; k < 14; k++) {
            int knot = k;
            Trial.changesNothing(Nets::full, "put(" + k + ")", y -> y.put(knot), BAD);
        }
        BagTree x = Nets.loose(14);
        due("put(13)", x.put(13), 1);
        due("put(13) again", x.put(13), BAD);
        x.wipe();
        due("put(13) when it was wiped", x.put(13), 1);
        x.fewest();
        due("put(0) behind fewest()", x.put(0), BAD);
        x.wipe();
        x.least();
        due("put(13) behind least()", x.put(13), BAD);
    }

    private static void putAll() {
        BagTree x = Nets.loose(14);
        for (int k = 13; k >= 0; k--) {
            due("put(" + k + ")", x.put(k), 14 - k);
            due("count(2)", x.count(2), 14 - k);
            due("row of the last one", x.row(13 - k), k);
            due("row of the one behind it", x.row(14 - k), NONE);
        }
        due("put(14)", x.put(14), NONE);
        BagTree small = Nets.small();
        due("put(1)", small.put(1), 3);
        rowIs(small, 2, 0, 1);
        due("count(3): THE TREE stays", small.count(3), 4);
    }

    private static void wipeAnswers() {
        Trial.changesNothing(Nets::none, "wipe()", y -> y.wipe(), 0);
        Trial.changesNothing(() -> Nets.loose(3), "wipe()", y -> y.wipe(), 0);
        for (int size = 0; size <= 14; size++) {
            BagTree x = Nets.withRow(Nets.loose(14), upTo(size));
            due("wipe() of " + size, x.wipe(), size);
            due("count(2)", x.count(2), 0);
            due("row(0)", x.row(0), NONE);
            due("wipe() again", x.wipe(), 0);
            for (int k = 0; k < 14; k++) due("put(" + k + ") anew", x.put(k), k + 1);
        }
    }

    private static void wipeLeavesTheRest() {
        BagTree x = Nets.small();
        due("wipe()", x.wipe(), 2);
        Trial.alike("wipe() and put()", Nets.withRow(x, 2, 0), Nets.small());
    }

    // ---- make

    private static void makeWithoutKnots() {
        Trial.changesNothing(Nets::none, "make()", y -> y.make(), STATE);
        BagTree x = new BagTree();
        x.fewest();
        due("make() behind fewest()", x.make(), STATE);
        x.least();
        due("make() behind least()", x.make(), STATE);
        due("count(3)", x.count(3), 0);
        x.knot(1);
        due("make() with a knot and no row", x.make(), STATE);
        x.put(0);
        due("make() with a knot in the row", x.make(), 0);
    }

    private static void makeWithoutOrder() {
        Trial.changesNothing(Nets::small, "make() without one", y -> y.make(), STATE);
        Trial.changesNothing(RowBoundaryTest::wipedFull, "make() with an empty row", y -> y.make(), STATE);
        Trial.changesNothing(RowBoundaryTest::fullWithoutLast, "make() without the last one", y -> y.make(), STATE);
        for (int knots = 1; knots <= 14; knots++) {
            BagTree x = Nets.path(knots);
            for (int k = 0; k < knots; k++) {
                due("make() with " + k + " of " + knots, x.make(), STATE);
                due("count(3)", x.count(3), 0);
                x.put(k);
            }
            due("make() with all " + knots, x.make(), knots == 1 ? 0 : 1);
            due("count(3)", x.count(3), knots);
        }
    }

    private static BagTree wipedFull() {
        BagTree x = Nets.full();
        x.wipe();
        return x;
    }

    private static BagTree fullWithoutLast() {
        return Nets.withRow(wipedFull(), upTo(13));
    }

    private static void makeOfFewAndMany() {
        BagTree one = Nets.withRow(Nets.loose(1), 0);
        due("make() of one", one.make(), 0);
        bagsAre(one, 1, NONE);
        BagTree path = Nets.withRow(Nets.path(14), upTo(14));
        due("make() of a path", path.make(), 1);
        BagTree all = Nets.withRow(Nets.clique(14), upTo(14));
        due("make() of all joined", all.make(), 13);
        for (int i = 0; i < 14; i++) {
            int up = i < 13 ? i + 1 : NONE;
            due("bagged(" + i + ", 0) of a path", path.bagged(i, 0), i < 13 ? 3 << i : 1 << 13);
            due("bagged(" + i + ", 1) of a path", path.bagged(i, 1), up);
            due("bagged(" + i + ", 0) of all joined", all.bagged(i, 0), 16383 & -1 << i);
            due("bagged(" + i + ", 1) of all joined", all.bagged(i, 1), up);
        }
        rowIs(all, upTo(14));
    }

    private static void upGoesNext() {
        BagTree x = Nets.withRow(Nets.star(5), 1, 2, 4, 3, 0);
        due("make() with the middle last", x.make(), 1);
        bagsAre(x, 3, 4, 5, 4, 17, 4, 9, 4, 1, NONE);
        due("bagged(4, 2)", x.bagged(4, 2), 4);
        // In the bag of 0 there are 3, 2 and 1 too: 2 goes next of these.
        BagTree y = Nets.withRow(Nets.star(4), 0, 2, 3, 1);
        due("make() with the middle first", y.make(), 3);
        bagsAre(y, 15, 1, 14, 2, 10, 3, 2, NONE);
        BagTree z = Nets.withRow(Nets.path(4), 3, 0, 1, 2);
        due("make() of both ends first", z.make(), 1);
        bagsAre(z, 12, 3, 3, 2, 6, 3, 4, NONE);
    }

    private static void upOfOneAlone() {
        BagTree x = Nets.withRow(Nets.loose(14), upTo(14));
        due("make() of loose ones", x.make(), 0);
        for (int i = 0; i < 14; i++) {
            due("bagged(" + i + ", 0)", x.bagged(i, 0), 1 << i);
            due("bagged(" + i + ", 1)", x.bagged(i, 1), i < 13 ? i + 1 : NONE);
        }
        due("sound()", x.sound(), 0);
        BagTree two = Nets.loose(4);
        two.edge(0, 2, 1);
        two.edge(1, 3, 1);
        Nets.withRow(two, 2, 0, 3, 1);
        due("make() of two parts", two.make(), 1);
        bagsAre(two, 5, 1, 1, 2, 10, 3, 2, NONE);
        two.wipe();
        Nets.withRow(two, 2, 3, 0, 1);
        due("make() of two parts by turns", two.make(), 1);
        bagsAre(two, 5, 2, 10, 3, 1, 3, 2, NONE);
    }

    private static void bagsOfThoseLeft() {
        BagTree x = Nets.withRow(Nets.ring(5), 0, 2, 1, 3, 4);
        due("make()", x.make(), 2);
        // 0 joins 1 and 4, then 2 joins 1 and 3, so 1 has 3 and 4 when it goes.
        bagsAre(x, 19, 2, 14, 2, 26, 3, 24, 4, 16, NONE);
        BagTree last = Nets.withRow(Nets.star(3), 1, 2, 0);
        last.make();
        due("bagged(2, 0): all others are gone", last.bagged(2, 0), 1);
    }

    private static void makeAnew() {
        BagTree x = Nets.loose(3);
        for (int i = 0; i < 14; i++) x.bag(7);
        x.hang(0, 13);
        Nets.withRow(x, 0, 1, 2);
        due("make() in place of 14 bags", x.make(), 0);
        bagsAre(x, 1, 1, 2, 2, 4, NONE);
        due("bag(5) behind it", x.bag(5), 3);
        due("bagged(2, 1)", x.bagged(2, 1), 3);
        due("make() again", x.make(), 0);
        bagsAre(x, 1, 1, 2, 2, 4, NONE);
        x.edge(0, 2, 1);
        due("count(5): THE TREE stays as it was", x.count(5), 0);
        due("make() with the edge", x.make(), 1);
        bagsAre(x, 5, 2, 2, 2, 4, NONE);
        x.cut(0, 2);
        due("make() without the edge", x.make(), 0);
        rowIs(x, 0, 1, 2);
    }

    // ---- fills

    private static void fillsWithoutOrder() {
        Trial.changesNothing(Nets::small, "fills() without one", y -> y.fills(), NONE);
        Trial.changesNothing(RowBoundaryTest::wipedFull, "fills() with an empty row", y -> y.fills(), NONE);
        Trial.changesNothing(RowBoundaryTest::fullWithoutLast, "fills() without the last one", y -> y.fills(), NONE);
        // Without knots the empty row is a row of all of them.
        Trial.changesNothing(Nets::none, "fills() without knots", y -> y.fills(), 0);
        BagTree x = Nets.loose(1);
        due("fills() of one that is not in the row", x.fills(), NONE);
        x.put(0);
        due("fills() of one", x.fills(), 0);
        x.knot(1);
        due("fills() when a knot came", x.fills(), NONE);
    }

    private static void fillsCounted() {
        due("fills() of a star, the middle first", Nets.withRow(Nets.star(14), upTo(14)).fills(), 78);
        due("fills() of a star, the middle last",
            Nets.withRow(Nets.star(14), 13, 12, 11, 10, 9, 8, 7, 6, 5, 4, 3, 2, 1, 0).fills(), 0);
        due("fills() of a ring", Nets.withRow(Nets.ring(14), upTo(14)).fills(), 11);
        due("fills() of three in a ring", Nets.withRow(Nets.ring(3), 0, 1, 2).fills(), 0);
        due("fills() of four in a ring", Nets.withRow(Nets.ring(4), 0, 1, 2, 3).fills(), 1);
        due("fills() of a path, from its end", Nets.withRow(Nets.path(3), 0, 1, 2).fills(), 0);
        due("fills() of a path, from its middle", Nets.withRow(Nets.path(3), 1, 0, 2).fills(), 1);
        due("fills() of all joined", Nets.withRow(Nets.clique(14), upTo(14)).fills(), 0);
        // 0 - 1 come to be neighbours by 2, and are so already when 3 goes.
        BagTree x = Nets.loose(4);
        for (int a = 0; a < 2; a++) for (int b = 2; b < 4; b++) x.edge(a, b, 1);
        due("fills() of a pair that is one already", Nets.withRow(x, 2, 3, 0, 1).fills(), 1);
    }

    private static void fillsChangesNothing() {
        Trial.changesNothing(Nets::full, "fills()", y -> y.fills(), 0);
        Trial.changesNothing(() -> Nets.withRow(Nets.star(5), upTo(5)), "fills()", y -> y.fills(), 6);
        BagTree x = Nets.withRow(Nets.star(5), upTo(5));
        due("fills()", x.fills(), 6);
        due("fills() again", x.fills(), 6);
        due("count(1)", x.count(1), 4);
    }

    // ---- fewest and least

    private static void fewestWithoutKnots() {
        Trial.changesNothing(Nets::none, "fewest()", y -> y.fewest(), -1);
        BagTree x = Nets.loose(1);
        due("fewest() of one", x.fewest(), 0);
        rowIs(x, 0);
    }

    private static void fewestOrder() {
        BagTree loose = Nets.loose(14);
        due("fewest() of loose ones", loose.fewest(), 0);
        rowIs(loose, upTo(14));
        BagTree all = Nets.clique(14);
        due("fewest() of all joined", all.fewest(), 13);
        rowIs(all, upTo(14));
        BagTree star = Nets.star(14);
        due("fewest() of a star", star.fewest(), 1);
        // When only the middle and 13 are left, both have one, and the least one goes.
        rowIs(star, 1, 2, 3, 4, 5, 6, 7, 8, 9, 10, 11, 12, 0, 13);
        BagTree ring = Nets.ring(14);
        due("fewest() of a ring", ring.fewest(), 2);
        rowIs(ring, upTo(14));
        // Three and three with one edge more: the least knot goes first, which is not the best.
        BagTree x = threeAndThree();
        due("fewest() that is not the least", x.fewest(), 4);
        rowIs(x, upTo(6));
        due("make()", x.make(), 4);
    }

    private static BagTree threeAndThree() {
        BagTree x = Nets.loose(6);
        for (int a : new int[] {0, 2, 3}) for (int b : new int[] {1, 4, 5}) x.edge(a, b, 1);
        x.edge(2, 3, 1);
        return x;
    }

    private static void fewestLeavesTheRest() {
        BagTree x = Nets.small();
        due("fewest()", x.fewest(), 1);
        rowIs(x, 0, 1, 2);
        x.wipe();
        Trial.alike("fewest() and the row of before", Nets.withRow(x, 2, 0), Nets.small());
        Trial.changesNothing(Nets::full, "fewest() once more", y -> y.fewest(), 4);
        BagTree wide = Nets.wide();
        wide.cut(0, 1);
        due("fewest() when an edge went", wide.fewest(), 4);
        due("width(): THE TREE stays", wide.width(), 5);
    }

    private static void leastWithoutKnots() {
        Trial.changesNothing(Nets::none, "least()", y -> y.least(), -1);
        BagTree x = Nets.loose(1);
        due("least() of one", x.least(), 0);
        rowIs(x, 0);
    }

    private static void leastWidths() {
        for (int knots = 1; knots <= 14; knots++) {
            due("least() of " + knots + " loose ones", Nets.loose(knots).least(), 0);
            due("least() of a path of " + knots, Nets.path(knots).least(), knots == 1 ? 0 : 1);
            due("least() of a star of " + knots, Nets.star(knots).least(), knots == 1 ? 0 : 1);
            due("least() of " + knots + " joined", Nets.clique(knots).least(), knots - 1);
            if (knots > 2) due("least() of a ring of " + knots, Nets.ring(knots).least(), 2);
        }
        BagTree less = Nets.clique(14);
        less.cut(0, 13);
        due("least() of all but one joined", less.least(), 12);
        due("least() below fewest()", threeAndThree().least(), 3);
    }

    /** Gives the knots of three and three all numberings, one by one: some let a knot go that must not go first. */
    private static void leastOfAllNumberings(int[] names, int named, int used) {
        if (named == names.length) {
            BagTree x = Nets.loose(6);
            for (int a : new int[] {0, 2, 3}) for (int b : new int[] {1, 4, 5}) x.edge(names[a], names[b], 1);
            x.edge(names[2], names[3], 1);
            due("least() of three and three", x.least(), 3);
            due("make() of three and three", x.make(), 3);
            return;
        }
        for (int name = 0; name < names.length; name++) {
            if ((used >> name & 1) == 1) continue;
            names[named] = name;
            leastOfAllNumberings(names, named + 1, used | 1 << name);
        }
    }

    private static void bestOrders() {
        BagTree loose = Nets.loose(14);
        loose.least();
        rowIs(loose, upTo(14));
        BagTree all = Nets.clique(14);
        all.least();
        rowIs(all, upTo(14));
        BagTree star = Nets.star(14);
        star.least();
        rowIs(star, 1, 2, 3, 4, 5, 6, 7, 8, 9, 10, 11, 12, 0, 13);
        // fewest() begins with the tail, but within width 2 the least knot may go first.
        BagTree tail = Nets.ring(4);
        tail.knot(1);
        tail.edge(3, 4, 1);
        due("least() of a ring with a tail", tail.least(), 2);
        rowIs(tail, 0, 1, 2, 3, 4);
        due("fewest() of a ring with a tail", tail.fewest(), 2);
        rowIs(tail, 4, 0, 1, 2, 3);
        BagTree x = threeAndThree();
        x.least();
        rowIs(x, 1, 4, 0, 2, 3, 5);
        due("make()", x.make(), 3);
    }

    private static void leastLeavesTheRest() {
        BagTree x = Nets.small();
        due("least()", x.least(), 1);
        rowIs(x, 0, 1, 2);
        x.wipe();
        Trial.alike("least() and the row of before", Nets.withRow(x, 2, 0), Nets.small());
        Trial.changesNothing(Nets::bare, "least() once more", y -> y.least(), 1);
        BagTree again = threeAndThree();
        due("least()", again.least(), 3);
        again.edge(0, 2, 1);
        again.edge(0, 3, 1);
        due("least() when edges came", again.least(), 3);
        again.edge(1, 4, 1);
        due("least() when one more came", again.least(), 4);
        again.cut(1, 4);
        due("least() when it went", again.least(), 3);
    }

    // ---- row and below

    private static void rowRefused() {
        for (Supplier<BagTree> net : ANY) {
            int inRow = net.get().count(2);
            for (int no : Trial.outside(0, inRow - 1)) {
                Trial.changesNothing(net, "row(" + no + ") of " + inRow, y -> y.row(no), NONE);
            }
        }
    }

    private static void rowAnswers() {
        Trial.changesNothing(Nets::small, "row(0)", y -> y.row(0), 2);
        Trial.changesNothing(Nets::small, "row(1)", y -> y.row(1), 0);
        BagTree x = Nets.loose(14);
        for (int k = 0; k < 14; k++) x.put((k + 5) % 14);
        for (int k = 0; k < 14; k++) due("row(" + k + ")", x.row(k), (k + 5) % 14);
        due("row(14)", x.row(14), NONE);
        x.wipe();
        x.put(3);
        due("row(0) behind wipe()", x.row(0), 3);
        due("row(1) behind wipe()", x.row(1), NONE);
    }

    private static void belowWithoutKnots() {
        Trial.changesNothing(Nets::none, "below()", y -> y.below(), -1);
        due("below() of one", Nets.loose(1).below(), 0);
    }

    private static void belowAnswers() {
        int[] want = {-1, 1, 1, 2, 5, 4};
        for (int i = 0; i < want.length; i++) Trial.changesNothing(ANY.get(i), "below()", y -> y.below(), want[i]);
        due("below() of loose ones", Nets.loose(14).below(), 0);
        due("below() of a star", Nets.star(14).below(), 1);
        due("below() of a ring", Nets.ring(14).below(), 2);
        due("below() of all joined", Nets.clique(14).below(), 13);
        // Four joined with a long tail: the tail goes first, with an edge each, and the four have three.
        BagTree tail = Nets.path(14);
        for (int a = 10; a < 14; a++) for (int b = 10; b < a; b++) tail.edge(a, b, 1);
        due("below() of four with a tail", tail.below(), 3);
        // Without fills three rows of three have 2, though no order is below 3.
        BagTree grid = Nets.loose(9);
        for (int k = 0; k < 9; k++) {
            if (k % 3 < 2) grid.edge(k, k + 1, 1);
            if (k < 6) grid.edge(k, k + 3, 1);
        }
        due("below() of three rows of three", grid.below(), 2);
        due("least() of three rows of three", grid.least(), 3);
    }
}
