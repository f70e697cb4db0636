/** The promises one by one: ordinary inputs, the edges that the document names, and wrong inputs. */
public final class PromiseTest {
    private static final int NONE = -1, BAD = -2, FULL = -3, STATE = -4;
    private static final long NO = Long.MIN_VALUE;
    private static final int LOW = Integer.MIN_VALUE, HIGH = Integer.MAX_VALUE;
    private static int wrong = 0;
    private static int promise = 0;

    private static void due(String call, long got, long want) {
        if (got == want) return;
        wrong++;
        System.out.println("promise " + promise + ": " + call + " answered " + got + ", due is " + want);
    }

    public static void main(String[] args) {
        promise = 1; newObject();
        promise = 2; knot();
        promise = 3; edge();
        promise = 4; cut();
        promise = 5; weigh();
        promise = 6; weight();
        promise = 7; beside();
        promise = 8; put();
        promise = 9; wipe();
        promise = 10; make();
        promise = 11; fills();
        promise = 12; fewest();
        promise = 13; least();
        promise = 14; row();
        promise = 15; below();
        promise = 16; clear();
        promise = 17; bag();
        promise = 18; hang();
        promise = 19; bagged();
        promise = 20; sound();
        promise = 21; width();
        promise = 22; separator();
        promise = 23; states();
        promise = 24; factor();
        promise = 25; pair();
        promise = 26; forbid();
        promise = 27; ways();
        promise = 28; best();
        promise = 29; bests();
        promise = 30; choice();
        promise = 31; drawn();
        promise = 32; share();
        promise = 33; count();
        System.out.println(wrong == 0 ? "all answers are as due" : wrong + " answers are not as due");
        if (wrong != 0) System.exit(1);
    }

    private static BagTree loose(int knots) {
        BagTree x = new BagTree();
        for (int k = 0; k < knots; k++) x.knot(k + 1);
        return x;
    }

    /** Knots 0 - 1 - .. in a row, each edge with WEIGHT 1. */
    private static BagTree path(int knots) {
        BagTree x = loose(knots);
        for (int k = 1; k < knots; k++) x.edge(k - 1, k, 1);
        return x;
    }

    private static BagTree ring(int knots) {
        BagTree x = path(knots);
        x.edge(0, knots - 1, 1);
        return x;
    }

    private static BagTree clique(int knots) {
        BagTree x = loose(knots);
        for (int a = 0; a < knots; a++) for (int b = 0; b < a; b++) x.edge(a, b, 1);
        return x;
    }

    private static void putAll(BagTree x, int... knots) {
        for (int knot : knots) x.put(knot);
    }

    private static void rowIs(BagTree x, int... knots) {
        due("count(2)", x.count(2), knots.length);
        for (int i = 0; i < knots.length; i++) due("row(" + i + ")", x.row(i), knots[i]);
    }

    private static void bagsAre(BagTree x, int... masksAndUps) {
        due("count(3)", x.count(3), masksAndUps.length / 2);
        for (int i = 0; i < masksAndUps.length / 2; i++) {
            due("bagged(" + i + ", 0)", x.bagged(i, 0), masksAndUps[2 * i]);
            due("bagged(" + i + ", 1)", x.bagged(i, 1), masksAndUps[2 * i + 1]);
        }
    }

    private static BagTree made(BagTree x) {
        x.fewest();
        x.make();
        return x;
    }

    private static void newObject() {
        BagTree x = new BagTree();
        int[] counts = {0, 0, 0, 0, 2, 0};
        for (int what = 0; what < 6; what++) due("count(" + what + ")", x.count(what), counts[what]);
        due("row(0)", x.row(0), NONE);
        due("bagged(0, 0)", x.bagged(0, 0), NONE);
        BagTree y = loose(1);
        due("count(0) of one", y.count(0), 1);
        due("count(0) of another", x.count(0), 0);
    }

    private static void knot() {
        BagTree x = new BagTree();
        for (int bad : new int[] {-1, 1001, LOW, HIGH}) due("knot(" + bad + ")", x.knot(bad), BAD);
        due("count(0)", x.count(0), 0);
        due("knot(0)", x.knot(0), 0);
        due("knot(1000)", x.knot(1000), 1);
        x.put(1);
        x.bag(3);
        due("knot(1001)", x.knot(1001), BAD);
        due("count(2) behind a refusal", x.count(2), 1);
        due("count(3) behind a refusal", x.count(3), 1);
        due("knot(7)", x.knot(7), 2);
        due("count(2)", x.count(2), 0);
        due("count(3)", x.count(3), 0);
        due("put(1) again", x.put(1), 1);
        x.wipe();
        for (int k = 3; k < 14; k++) due("knot(1)", x.knot(1), k);
        x.put(13);
        x.bag(1 << 13);
        due("knot(1)", x.knot(1), FULL);
        due("knot(-1) when it is full", x.knot(-1), BAD);
        due("count(0)", x.count(0), 14);
        due("count(2) behind FULL", x.count(2), 1);
        due("count(3) behind FULL", x.count(3), 1);
        due("weight(0, 0)", x.weight(0, 0), 0);
        due("weight(1, 1)", x.weight(1, 1), 1000);
    }

    private static void edge() {
        BagTree x = loose(3);
        due("edge(0, 1, 0)", x.edge(0, 1, 0), 1);
        due("edge(1, 0, 1000)", x.edge(1, 0, 1000), 0);
        due("weight(0, 1)", x.weight(0, 1), 1000);
        due("edge(0, 3, 1)", x.edge(0, 3, 1), NONE);
        due("edge(3, 0, 1)", x.edge(3, 0, 1), NONE);
        due("edge(-1, 0, 1)", x.edge(-1, 0, 1), NONE);
        due("edge(0, LOW, 1)", x.edge(0, LOW, 1), NONE);
        due("edge(HIGH, 0, 1)", x.edge(HIGH, 0, 1), NONE);
        due("edge(3, 3, 1001)", x.edge(3, 3, 1001), NONE);
        due("edge(2, 2, 1)", x.edge(2, 2, 1), BAD);
        due("edge(0, 1, 1001)", x.edge(0, 1, 1001), BAD);
        due("edge(0, 2, -1)", x.edge(0, 2, -1), BAD);
        due("weight(0, 1)", x.weight(0, 1), 1000);
        due("count(1)", x.count(1), 1);
        x.put(1);
        x.bag(1);
        due("edge(0, 2, 5)", x.edge(0, 2, 5), 1);
        due("count(2): the row stays", x.count(2), 1);
        due("count(3): the bags stay", x.count(3), 1);
    }

    private static void cut() {
        BagTree x = path(3);
        x.edge(0, 1, 77);
        due("cut(0, 2)", x.cut(0, 2), NONE);
        due("cut(1, 1)", x.cut(1, 1), NONE);
        due("cut(0, 3)", x.cut(0, 3), NONE);
        due("cut(-1, 0)", x.cut(-1, 0), NONE);
        due("cut(HIGH, LOW)", x.cut(HIGH, LOW), NONE);
        due("count(1)", x.count(1), 2);
        due("cut(1, 0)", x.cut(1, 0), 77);
        due("cut(0, 1)", x.cut(0, 1), NONE);
        due("count(1)", x.count(1), 1);
        due("beside(1)", x.beside(1), 4);
        due("edge(0, 1, 3) again", x.edge(0, 1, 3), 1);
    }

    private static void weigh() {
        BagTree x = loose(2);
        due("weigh(1, 1000)", x.weigh(1, 1000), 2);
        due("weigh(1, 0)", x.weigh(1, 0), 1000);
        due("weigh(1, 1001)", x.weigh(1, 1001), BAD);
        due("weigh(1, -1)", x.weigh(1, -1), BAD);
        due("weigh(2, 1001)", x.weigh(2, 1001), NONE);
        due("weigh(-1, 1)", x.weigh(-1, 1), NONE);
        due("weight(1, 1)", x.weight(1, 1), 0);
        due("weight(0, 0)", x.weight(0, 0), 1);
    }

    private static void weight() {
        BagTree x = path(3);
        x.edge(1, 2, 9);
        due("weight(1, 2)", x.weight(1, 2), 9);
        due("weight(2, 1)", x.weight(2, 1), 9);
        due("weight(2, 2)", x.weight(2, 2), 3);
        due("weight(0, 2)", x.weight(0, 2), NONE);
        due("weight(3, 3)", x.weight(3, 3), NONE);
        due("weight(-1, -1)", x.weight(-1, -1), NONE);
        due("weight(2, 3)", x.weight(2, 3), NONE);
        due("weight(LOW, 0)", x.weight(LOW, 0), NONE);
    }

    private static void beside() {
        BagTree x = path(14);
        due("beside(0)", x.beside(0), 2);
        due("beside(12)", x.beside(12), 1 << 11 | 1 << 13);
        due("beside(14)", x.beside(14), NONE);
        due("beside(-1)", x.beside(-1), NONE);
        due("beside(0) of a loose one", loose(1).beside(0), 0);
    }

    private static void put() {
        BagTree x = loose(3);
        due("put(2)", x.put(2), 1);
        due("put(0)", x.put(0), 2);
        due("put(2)", x.put(2), BAD);
        due("put(3)", x.put(3), NONE);
        due("put(-1)", x.put(-1), NONE);
        due("put(32)", x.put(32), NONE);
        rowIs(x, 2, 0);
        due("put(1)", x.put(1), 3);
        due("put(1)", x.put(1), BAD);
        rowIs(x, 2, 0, 1);
    }

    private static void wipe() {
        BagTree x = loose(3);
        due("wipe()", x.wipe(), 0);
        putAll(x, 2, 1);
        x.bag(1);
        due("wipe()", x.wipe(), 2);
        due("wipe()", x.wipe(), 0);
        due("row(0)", x.row(0), NONE);
        due("put(2)", x.put(2), 1);
        due("count(3)", x.count(3), 1);
    }

    private static void make() {
        BagTree x = ring(4);
        due("make() without a row", x.make(), STATE);
        x.bag(1);
        putAll(x, 1, 0, 3);
        due("make() with a row that lacks one", x.make(), STATE);
        due("count(3) behind a refusal", x.count(3), 1);
        x.put(2);
        due("make()", x.make(), 2);
        bagsAre(x, 7, 1, 13, 2, 12, 3, 4, NONE);
        rowIs(x, 1, 0, 3, 2);
        BagTree y = loose(3);
        putAll(y, 2, 0, 1);
        due("make() of loose ones", y.make(), 0);
        bagsAre(y, 4, 1, 1, 2, 2, NONE);
        BagTree star = loose(4);
        for (int k = 1; k < 4; k++) star.edge(0, k, 1);
        putAll(star, 1, 2, 0, 3);
        due("make() of a star", star.make(), 1);
        bagsAre(star, 3, 2, 5, 2, 9, 3, 8, NONE);
        star.wipe();
        putAll(star, 0, 1, 2, 3);
        due("make() from the middle", star.make(), 3);
        bagsAre(star, 15, 1, 14, 2, 12, 3, 8, NONE);
        due("make() without knots", new BagTree().make(), STATE);
        BagTree all = clique(14);
        all.fewest();
        due("make() of all", all.make(), 13);
        due("bagged(0, 0)", all.bagged(0, 0), 16383);
    }

    private static void fills() {
        BagTree x = ring(5);
        due("fills() without a row", x.fills(), NONE);
        putAll(x, 0, 1, 2, 3);
        due("fills() of a row that lacks one", x.fills(), NONE);
        x.put(4);
        due("fills()", x.fills(), 2);
        due("count(1): no edge came", x.count(1), 5);
        BagTree star = loose(5);
        for (int k = 1; k < 5; k++) star.edge(0, k, 1);
        putAll(star, 0, 1, 2, 3, 4);
        due("fills() from the middle", star.fills(), 6);
        star.wipe();
        putAll(star, 4, 3, 2, 1, 0);
        due("fills() from outside", star.fills(), 0);
        due("fills() without knots", new BagTree().fills(), 0);
    }

    private static void fewest() {
        BagTree x = path(4);
        x.edge(1, 3, 1);
        x.bag(1);
        due("fewest()", x.fewest(), 2);
        rowIs(x, 0, 1, 2, 3);
        due("count(3): the tree stays", x.count(3), 1);
        due("bagged(0, 0)", x.bagged(0, 0), 1);
        BagTree star = loose(4);
        for (int k = 1; k < 4; k++) star.edge(0, k, 1);
        due("fewest() of a star", star.fewest(), 1);
        rowIs(star, 1, 2, 0, 3);
        // 1 has the fewest neighbours at first; when it is gone, its fill gives 0 and 2 as many as the others have.
        BagTree fill = clique(5);
        fill.cut(0, 2);
        fill.cut(1, 3);
        fill.cut(1, 4);
        due("fewest() with a fill", fill.fewest(), 3);
        rowIs(fill, 1, 0, 2, 3, 4);
        BagTree none = new BagTree();
        due("fewest() without knots", none.fewest(), -1);
        due("fewest() of one", loose(1).fewest(), 0);
        due("fewest() of all", clique(14).fewest(), 13);
    }

    private static void least() {
        BagTree star = loose(4);
        for (int k = 1; k < 4; k++) star.edge(0, k, 1);
        star.put(3);
        star.bag(15);
        due("least() of a star", star.least(), 1);
        rowIs(star, 1, 2, 0, 3);
        due("bagged(0, 0): the tree stays", star.bagged(0, 0), 15);
        due("count(3): the tree stays", star.count(3), 1);
        due("least() of a path", path(5).least(), 1);
        BagTree mid = loose(5);
        mid.edge(0, 2, 1);
        mid.edge(0, 4, 1);
        mid.edge(1, 3, 1);
        due("least() of two paths", mid.least(), 1);
        rowIs(mid, 1, 2, 0, 3, 4);
        BagTree ring = ring(6);
        due("least() of a ring", ring.least(), 2);
        rowIs(ring, 0, 1, 2, 3, 4, 5);
        due("least() without knots", new BagTree().least(), -1);
        due("least() of loose ones", loose(14).least(), 0);
        due("least() of all", clique(14).least(), 13);
        BagTree cube = loose(8);
        for (int k = 0; k < 8; k++) for (int bit = 1; bit < 8; bit *= 2) cube.edge(k, k ^ bit, 1);
        due("least() of a cube", cube.least(), 3);
        due("below() of a cube", cube.below(), 3);
        BagTree two = loose(6);
        for (int a = 0; a < 3; a++) for (int b = 3; b < 6; b++) two.edge(a, b, 1);
        due("least() of three and three", two.least(), 3);
        rowIs(two, 0, 1, 2, 3, 4, 5);
    }

    private static void row() {
        BagTree x = loose(3);
        putAll(x, 2, 0);
        due("row(0)", x.row(0), 2);
        due("row(1)", x.row(1), 0);
        for (int i : new int[] {2, -1, 14, LOW, HIGH}) due("row(" + i + ")", x.row(i), NONE);
    }

    private static void below() {
        due("below() without knots", new BagTree().below(), -1);
        due("below() of loose ones", loose(3).below(), 0);
        due("below() of a path", path(5).below(), 1);
        due("below() of a ring", ring(5).below(), 2);
        due("below() of all", clique(14).below(), 13);
        // No fills here: the width of a grid is 3, but below it there is 2.
        BagTree grid = loose(9);
        for (int k = 0; k < 9; k++) {
            if (k % 3 < 2) grid.edge(k, k + 1, 1);
            if (k < 6) grid.edge(k, k + 3, 1);
        }
        grid.put(4);
        due("below() of a grid", grid.below(), 2);
        due("count(1)", grid.count(1), 12);
        rowIs(grid, 4);
        due("least() of a grid", grid.least(), 3);
    }

    private static void clear() {
        BagTree x = loose(2);
        due("clear()", x.clear(), 0);
        x.put(1);
        x.bag(1);
        x.bag(2);
        due("clear()", x.clear(), 2);
        due("clear()", x.clear(), 0);
        due("bagged(0, 0)", x.bagged(0, 0), NONE);
        due("bag(3)", x.bag(3), 0);
        due("bagged(0, 1)", x.bagged(0, 1), NONE);
        rowIs(x, 1);
    }

    private static void bag() {
        BagTree x = loose(3);
        for (int bad : new int[] {0, 8, 9, -1, LOW, HIGH}) due("bag(" + bad + ")", x.bag(bad), BAD);
        due("bag(7)", x.bag(7), 0);
        due("bagged(0, 1)", x.bagged(0, 1), NONE);
        due("bag(7) once more", x.bag(7), 1);
        bagsAre(x, 7, 1, 7, NONE);
        due("bag(1)", x.bag(1), 2);
        x.hang(0, 2);
        due("bag(2)", x.bag(2), 3);
        bagsAre(x, 7, 2, 7, 2, 1, 3, 2, NONE);
        for (int i = 4; i < 14; i++) due("bag(4)", x.bag(4), i);
        due("bag(4)", x.bag(4), FULL);
        due("bag(0) when it is full", x.bag(0), BAD);
        due("count(3)", x.count(3), 14);
        due("bagged(13, 1)", x.bagged(13, 1), NONE);
        BagTree y = loose(14);
        due("bag(16384)", y.bag(16384), BAD);
        due("bag(16383)", y.bag(16383), 0);
    }

    private static void hang() {
        BagTree x = loose(2);
        for (int i = 0; i < 4; i++) x.bag(3);
        due("hang(0, 3)", x.hang(0, 3), 1);
        due("hang(0, 2)", x.hang(0, 2), 3);
        due("hang(1, 1)", x.hang(1, 1), BAD);
        due("hang(1, 0)", x.hang(1, 0), BAD);
        due("hang(3, 0)", x.hang(3, 0), BAD);
        due("hang(3, 3)", x.hang(3, 3), BAD);
        due("hang(3, 4)", x.hang(3, 4), NONE);
        due("hang(4, 1)", x.hang(4, 1), NONE);
        due("hang(-1, 1)", x.hang(-1, 1), NONE);
        due("hang(0, -1)", x.hang(0, -1), NONE);
        due("hang(HIGH, LOW)", x.hang(HIGH, LOW), NONE);
        bagsAre(x, 3, 2, 3, 2, 3, 3, 3, NONE);
    }

    private static void bagged() {
        BagTree x = loose(3);
        x.bag(1);
        x.bag(3);
        x.bag(6);
        x.hang(0, 2);
        due("bagged(0, 0)", x.bagged(0, 0), 1);
        due("bagged(2, 0)", x.bagged(2, 0), 6);
        due("bagged(0, 1)", x.bagged(0, 1), 2);
        due("bagged(2, 1)", x.bagged(2, 1), NONE);
        due("bagged(0, 2)", x.bagged(0, 2), 0);
        due("bagged(1, 2)", x.bagged(1, 2), 0);
        due("bagged(2, 2)", x.bagged(2, 2), 2);
        due("bagged(0, 3)", x.bagged(0, 3), NONE);
        due("bagged(0, -1)", x.bagged(0, -1), NONE);
        due("bagged(3, 0)", x.bagged(3, 0), NONE);
        due("bagged(-1, 2)", x.bagged(-1, 2), NONE);
        due("bagged(-1, 1)", x.bagged(-1, 1), NONE);
    }

    private static void sound() {
        BagTree x = path(4);
        due("sound() without bags", x.sound(), STATE);
        x.bag(3);
        x.bag(12);
        due("sound(): 1 and 2 lack", x.sound(), 1 + 16 + 2);
        x.edge(0, 3, 1);
        due("sound(): 0 and 3 lack", x.sound(), 1 + 3);
        x.cut(0, 3);
        x.cut(1, 2);
        due("sound()", x.sound(), 0);
        x.clear();
        x.bag(3);
        due("sound(): the edge comes first", x.sound(), 1 + 2 * 16 + 3);
        x.cut(2, 3);
        due("sound(): 2 is in no bag", x.sound(), 1003);
        x.bag(4);
        due("sound(): 3 is in no bag", x.sound(), 1004);
        x.bag(2);
        due("sound(): missing before scattered", x.sound(), 1004);
        x.bag(8);
        due("sound(): 1 is scattered", x.sound(), 2002);
        due("hang(0, 2)", x.hang(0, 2), 1);
        due("sound() when they hang together", x.sound(), 0);
        x.bag(1);
        due("sound(): 0 is scattered", x.sound(), 2001);
        BagTree y = clique(14);
        y.bag(16383 & ~(1 << 13));
        due("sound() of the last knot", y.sound(), 1 + 13);
        y.bag(16383);
        due("sound() of a bag of all", y.sound(), 0);
        BagTree z = made(ring(6));
        due("sound() of a tree that was made", z.sound(), 0);
    }

    private static void width() {
        BagTree x = loose(5);
        due("width() without bags", x.width(), NONE);
        x.bag(4);
        due("width()", x.width(), 0);
        x.bag(27);
        x.bag(3);
        due("width()", x.width(), 3);
        x.clear();
        due("width()", x.width(), NONE);
        due("width() of all", made(clique(14)).width(), 13);
    }

    private static void separator() {
        BagTree x = path(7);
        due("separator() without bags", x.separator(), STATE);
        putAll(x, 0, 1, 2, 3, 4, 5, 6);
        x.make();
        // Bag 2 is 2, 3: without it 0, 1 and 4, 5, 6 are left, and half of seven, cut, is 3.
        due("separator()", x.separator(), 2);
        x.edge(0, 6, 1);
        due("separator() that is not sound", x.separator(), STATE);
        BagTree even = path(6);
        putAll(even, 0, 1, 2, 3, 4, 5);
        even.make();
        due("separator() of six", even.separator(), 1);
        BagTree all = clique(14);
        all.bag(16383);
        due("separator() above width 4", all.separator(), 0);
        BagTree apart = loose(4);
        apart.fewest();
        apart.make();
        due("separator() of loose ones", apart.separator(), 0);
        BagTree one = loose(1);
        one.bag(1);
        due("separator() of one", one.separator(), 0);
        BagTree pair = path(2);
        pair.bag(1);
        due("separator() with a loose edge", pair.separator(), STATE);
    }

    private static void states() {
        BagTree x = made(path(2));
        for (int bad : new int[] {0, 5, -1, LOW, HIGH}) due("states(" + bad + ")", x.states(bad), BAD);
        due("states(3)", x.states(3), 2);
        x.factor(2, 7);
        x.pair(1, 2, 0, 3);
        x.pair(0, 0, 1, 3);
        x.forbid(1, 5);
        due("states(5)", x.states(5), BAD);
        due("ways() as it was", x.ways(), 2);
        due("states(3) again", x.states(3), 3);
        due("ways()", x.ways(), 9);
        due("factor(2, 0)", x.factor(2, 0), 100);
        due("pair(1, 2, 1, 0)", x.pair(1, 2, 1, 0), 100);
        due("pair(0, 0, 1, 0)", x.pair(0, 0, 1, 0), 100);
        due("forbid(1, 0)", x.forbid(1, 0), 0);
        due("states(1)", x.states(1), 3);
        due("ways()", x.ways(), 1);
        due("states(4)", x.states(4), 1);
        due("ways()", x.ways(), 16);
    }

    private static void factor() {
        BagTree x = made(loose(1));
        due("factor(0, -10)", x.factor(0, -10), 100);
        due("factor(0, 10)", x.factor(0, 10), 90);
        due("factor(0, 11)", x.factor(0, 11), BAD);
        due("factor(0, -11)", x.factor(0, -11), BAD);
        due("factor(2, 11)", x.factor(2, 11), NONE);
        due("factor(-1, 1)", x.factor(-1, 1), NONE);
        due("factor(0, 4)", x.factor(0, 4), 110);
        due("factor(1, 3)", x.factor(1, 3), 100);
        due("best(true)", x.best(true), 4);
        due("best(false)", x.best(false), 3);
    }

    private static void pair() {
        BagTree x = made(path(2));
        due("pair(0, 1, 1, 10)", x.pair(0, 1, 1, 10), 100);
        due("pair(1, 0, 1, -10)", x.pair(1, 0, 1, -10), 110);
        due("pair(0, 1, 0, 5)", x.pair(0, 1, 0, 5), 90);
        due("ways()", x.ways(), 2);
        due("pair(1, 0, 0, 6)", x.pair(1, 0, 0, 6), 0);
        due("pair(0, 1, 1, 7)", x.pair(0, 1, 1, 7), 0);
        due("pair(1, 0, 2, 0)", x.pair(1, 0, 2, 0), BAD);
        due("pair(1, 0, -1, 0)", x.pair(1, 0, -1, 0), BAD);
        due("pair(1, 0, 1, 11)", x.pair(1, 0, 1, 11), BAD);
        due("pair(1, 0, 0, -11)", x.pair(1, 0, 0, -11), BAD);
        due("pair(2, 0, 2, 11)", x.pair(2, 0, 2, 11), NONE);
        due("pair(0, 2, 1, 0)", x.pair(0, 2, 1, 0), NONE);
        due("pair(-1, 0, 1, 0)", x.pair(-1, 0, 1, 0), NONE);
        due("pair(0, LOW, 1, 0)", x.pair(0, LOW, 1, 0), NONE);
        due("ways()", x.ways(), 4);
        due("best(true)", x.best(true), 7);
        due("pair(1, 0, 1, 0)", x.pair(1, 0, 1, 0), 107);
        due("pair(1, 1, 0, 0)", x.pair(1, 1, 0, 0), 100);
        due("ways()", x.ways(), 3);
    }

    private static void forbid() {
        BagTree x = made(loose(2));
        due("forbid(0, 15)", x.forbid(0, 15), 0);
        due("ways()", x.ways(), 0);
        due("forbid(0, 12)", x.forbid(0, 12), 15);
        due("ways()", x.ways(), 4);
        due("forbid(0, 16)", x.forbid(0, 16), BAD);
        due("forbid(0, -1)", x.forbid(0, -1), BAD);
        due("forbid(2, 16)", x.forbid(2, 16), NONE);
        due("forbid(-1, 1)", x.forbid(-1, 1), NONE);
        due("forbid(0, 1)", x.forbid(0, 1), 12);
        due("ways()", x.ways(), 2);
        x.knot(1);
        due("forbid(0, 0): it stays when a knot comes", x.forbid(0, 0), 1);
        due("forbid(2, 0)", x.forbid(2, 0), 0);
    }

    /** STATE 1 is taken, and two that are taken may not be joined. */
    private static BagTree takenApart(BagTree x) {
        made(x);
        x.factor(1, 1);
        x.pair(1, 1, 0, 0);
        return x;
    }

    /** Each question is refused: without a tree, with one that is not sound, with one that is too wide. */
    private static BagTree[] refused() {
        BagTree unsound = made(path(3));
        unsound.edge(0, 2, 1);
        BagTree wide = made(clique(6));
        BagTree cleared = made(path(3));
        cleared.clear();
        return new BagTree[] {path(3), unsound, wide, cleared};
    }

    private static void ways() {
        due("ways() without knots", new BagTree().ways(), NO);
        for (BagTree x : refused()) due("ways()", x.ways(), NO);
        due("ways() of width 4", made(clique(5)).ways(), 32);
        due("ways() of a path", takenApart(path(10)).ways(), 144);
        due("ways() of a ring", takenApart(ring(10)).ways(), 123);
        BagTree x = made(ring(5));
        x.states(3);
        for (int s = 0; s < 3; s++) x.pair(s, s, 0, 0);
        due("ways() in three colours", x.ways(), 30);
        x.states(2);
        for (int s = 0; s < 2; s++) x.pair(s, s, 0, 0);
        due("ways() in two colours", x.ways(), 0);
        BagTree wide = loose(6);
        wide.bag(63);
        due("ways() with a bag of six", wide.ways(), NO);
        wide.clear();
        wide.bag(31);
        wide.bag(32);
        due("ways() with a bag of five", wide.ways(), 64);
    }

    private static void best() {
        for (BagTree x : refused()) due("best()", x.best(true), NO);
        BagTree x = takenApart(path(4));
        due("best(true)", x.best(true), 6);
        due("best(false)", x.best(false), 0);
        x.edge(2, 3, 10);
        x.pair(0, 1, 1, -2);
        due("best(true) with edges", x.best(true), 0);
        // The first and the third: 1 and 3, less 2 for two edges, less 20 for the third one.
        due("best(false) with edges", x.best(false), -20);
        x.pair(0, 1, 1, 0);
        x.forbid(3, 2);
        due("best(true) with one forbidden", x.best(true), 4);
        x.forbid(3, 3);
        due("best(true) without a way", x.best(true), NO);
        due("best(false) without a way", x.best(false), NO);
    }

    private static void bests() {
        for (BagTree x : refused()) due("bests()", x.bests(false), NO);
        BagTree x = takenApart(path(4));
        due("bests(true)", x.bests(true), 1);
        due("bests(false)", x.bests(false), 1);
        x.weigh(2, 4);
        x.weigh(3, 4);
        // Of 1, 2, 4, 4: the second with the fourth.
        due("bests(true)", x.bests(true), 1);
        x.weigh(0, 2);
        // Of 2, 2, 4, 4: the first with the third or the fourth, the second with the fourth.
        due("bests(true) of several", x.bests(true), 3);
        x.factor(1, 0);
        due("bests(true) of all ways", x.bests(true), 8);
        x.forbid(0, 3);
        due("bests(true) without a way", x.bests(true), NO);
    }

    private static void choice() {
        for (BagTree x : refused()) {
            due("choice(true, 0)", x.choice(true, 0), STATE);
            due("choice(true, 14)", x.choice(true, 14), NONE);
            due("choice(true, -1)", x.choice(true, -1), NONE);
        }
        BagTree x = takenApart(path(4));
        x.weigh(0, 2);
        x.weigh(2, 4);
        int[] first = {0, 1, 0, 1};
        for (int k = 0; k < 4; k++) due("choice(true, " + k + ")", x.choice(true, k), first[k]);
        for (int k = 0; k < 4; k++) due("choice(false, " + k + ")", x.choice(false, k), 0);
        due("choice(true, 4)", x.choice(true, 4), NONE);
        due("choice(true, LOW)", x.choice(true, LOW), NONE);
        x.forbid(2, 3);
        due("choice(true, 0) without a way", x.choice(true, 0), NONE);
        BagTree y = made(path(3));
        y.states(4);
        y.pair(0, 0, 0, 0);
        y.forbid(1, 6);
        int[] firstOfAll = {0, 3, 0};
        for (int k = 0; k < 3; k++) due("choice(true, " + k + ")", y.choice(true, k), firstOfAll[k]);
    }

    private static void drawn() {
        for (BagTree x : refused()) {
            due("drawn(0, 0)", x.drawn(0, 0), STATE);
            due("drawn(0, 14)", x.drawn(0, 14), NONE);
            due("drawn(-1, 0)", x.drawn(-1, 0), NONE);
        }
        BagTree x = takenApart(path(3));
        int[] ways = {0b000, 0b001, 0b010, 0b100, 0b101};
        for (int n = 0; n < 5; n++) {
            for (int k = 0; k < 3; k++) due("drawn(" + n + ", " + k + ")", x.drawn(n, k), ways[n] >> 2 - k & 1);
        }
        due("drawn(5, 0)", x.drawn(5, 0), NONE);
        due("drawn(-1, 0)", x.drawn(-1, 0), NONE);
        due("drawn(2^32, 0)", x.drawn(1L << 32, 0), NONE);
        due("drawn(most, 0)", x.drawn(Long.MAX_VALUE, 0), NONE);
        due("drawn(least, 0)", x.drawn(Long.MIN_VALUE, 0), NONE);
        due("drawn(0, 3)", x.drawn(0, 3), NONE);
        x.forbid(0, 1);
        due("drawn(1, 2)", x.drawn(1, 2), 1);
        due("drawn(2, 2)", x.drawn(2, 2), NONE);
        x.forbid(0, 3);
        due("drawn(0, 0) without a way", x.drawn(0, 0), NONE);
    }

    private static void share() {
        for (BagTree x : refused()) due("share(0, 0)", x.share(0, 0), NO);
        BagTree x = takenApart(path(3));
        due("share(1, 0)", x.share(1, 0), 4);
        due("share(1, 1)", x.share(1, 1), 1);
        due("share(0, 1)", x.share(0, 1), 2);
        for (int bad : new int[] {-1, 2, 4, 32, LOW}) due("share(0, " + bad + ")", x.share(0, bad), NO);
        for (int bad : new int[] {-1, 3, 14, HIGH}) due("share(" + bad + ", 0)", x.share(bad, 0), NO);
        x.forbid(0, 1);
        due("share(0, 0) that is forbidden", x.share(0, 0), 0);
        due("share(0, 1)", x.share(0, 1), 2);
        x.forbid(0, 3);
        due("share(1, 0) without a way", x.share(1, 0), 0);
    }

    private static void count() {
        BagTree x = path(3);
        x.states(3);
        x.put(1);
        x.put(2);
        x.bag(3);
        int[] counts = {3, 2, 2, 1, 3, 0};
        for (int what = 0; what < 6; what++) due("count(" + what + ")", x.count(what), counts[what]);
        x.bag(6);
        due("count(5)", x.count(5), 1);
        x.clear();
        due("count(5) without a tree", x.count(5), 0);
        for (int bad : new int[] {-1, 6, LOW, HIGH}) due("count(" + bad + ")", x.count(bad), NONE);
        BagTree wide = made(clique(14));
        due("count(5) above width 4", wide.count(5), 1);
        due("count(1) of all", wide.count(1), 91);
    }
}
