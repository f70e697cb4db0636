import java.util.List;
import java.util.function.Supplier;

/** The boundaries that the document names for bags and for the tree that they hang in: promises 16 to 22. */
public final class BagBoundaryTest {
    private static final int NONE = -1, BAD = -2, FULL = -3, STATE = -4;
    private static final int ALL = 16383;
    private static final List<Supplier<BagTree>> ANY =
        List.of(Nets::none, Nets::small, Nets::bare, Nets::unsound, Nets::wide, Nets::full);

    public static void main(String[] args) {
        Trial.about("16: There are no BAGS: how many there were");
        clearAnswers();
        Trial.about("16: There are no BAGS, and nothing else changes");
        clearLeavesTheRest();
        Trial.about("17: BAD: a MASK that is 0");
        bagOfNothing();
        Trial.about("17: BAD: a MASK that has others than KNOTS");
        bagOfOthers();
        Trial.about("17: BAGS, numbered from 0 on, 14 at most; FULL");
        bagsUntilFull();
        Trial.about("17: BAD; FULL: the first one that the act tells");
        bagBadBeforeFull();
        Trial.about("17: the last one, without UP; the one that was the last has it as UP");
        bagUps();
        Trial.about("18: NONE");
        hangNoBag();
        Trial.about("18: BAD: it is the last one");
        hangTheLast();
        Trial.about("18: BAD: up is not above it");
        hangNotAbove();
        Trial.about("18: NONE; BAD: the first one that the act tells");
        hangNoneBeforeBad();
        Trial.about("18: A BAG's UP becomes another BAG: what it was");
        hangAnswers();
        Trial.about("19: NONE");
        baggedRefused();
        Trial.about("19: 0 its MASK, 1 its UP (NONE: without), 2 how many BAGS have it as UP");
        baggedAnswers();
        Trial.about("20: STATE: there are no BAGS");
        soundWithoutBags();
        Trial.about("20: 1 and 16 a + b: the least a, then b");
        soundOfEdges();
        Trial.about("20: else 1001 and k: KNOT k (the least) is in no BAG");
        soundOfMissing();
        Trial.about("20: else 2001 and k: the BAGS with KNOT k (the least) do not hang together");
        soundOfScattered();
        Trial.about("20: Whether THE TREE is SOUND: 0");
        soundTrees();
        Trial.about("20: sound() changes nothing");
        soundChangesNothing();
        Trial.about("21: NONE: there are no BAGS");
        widthWithoutBags();
        Trial.about("21: the most KNOTS that a BAG has, less 1");
        widthAnswers();
        Trial.about("22: STATE: no BAGS, or not SOUND");
        separatorRefused();
        Trial.about("22: never more than half of all, cut");
        separatorHalves();
        Trial.about("22: without its KNOTS, KNOTS that EDGES join (directly or by others of these)");
        separatorJoins();
        Trial.about("22: the first BAG");
        separatorIsFirst();
        Trial.end();
    }

    private static void due(String call, long got, long want) {
        Trial.due(call, got, want);
    }

    private static void bagsAre(BagTree x, int... masksAndUps) {
        due("count(3)", x.count(3), masksAndUps.length / 2);
        for (int i = 0; i < masksAndUps.length / 2; i++) {
            due("bagged(" + i + ", 0)", x.bagged(i, 0), masksAndUps[2 * i]);
            due("bagged(" + i + ", 1)", x.bagged(i, 1), masksAndUps[2 * i + 1]);
        }
    }

    /** The tree of the order 0, 1, .. . */
    private static BagTree inTurn(BagTree x) {
        int knots = x.count(0);
        for (int k = 0; k < knots; k++) x.put(k);
        x.make();
        return x;
    }

    // ---- clear and bag

    private static void clearAnswers() {
        Trial.changesNothing(Nets::none, "clear()", y -> y.clear(), 0);
        Trial.changesNothing(Nets::bare, "clear()", y -> y.clear(), 0);
        for (int bags = 0; bags <= 14; bags++) {
            BagTree x = Nets.loose(2);
            for (int i = 0; i < bags; i++) x.bag(3);
            due("clear() of " + bags, x.clear(), bags);
            due("clear() again", x.clear(), 0);
            due("count(3)", x.count(3), 0);
            due("count(5)", x.count(5), 0);
            for (int what = 0; what < 3; what++) due("bagged(0, " + what + ")", x.bagged(0, what), NONE);
            due("sound()", x.sound(), STATE);
            due("width()", x.width(), NONE);
            for (int i = 0; i < 14; i++) due("bag(1) anew", x.bag(1), i);
        }
        due("clear() of a tree that was made", Nets.full().clear(), 14);
    }

    private static void clearLeavesTheRest() {
        BagTree x = Nets.small();
        due("clear()", x.clear(), 4);
        Nets.withBags(x, 3, 2, 6, 4);
        due("hang(0, 2): a bag told anew hangs on the next one", x.hang(0, 2), 1);
        Trial.alike("clear() and the bags of before", x, Nets.small());
    }

    private static void bagOfNothing() {
        for (Supplier<BagTree> net : ANY) Trial.changesNothing(net, "bag(0)", y -> y.bag(0), BAD);
    }

    private static void bagOfOthers() {
        for (int knots = 0; knots <= 14; knots++) {
            BagTree x = Nets.loose(knots);
            int all = (1 << knots) - 1;
            for (int bit = knots; bit < 32; bit++) {
                due("bag with " + bit + " of " + knots, x.bag(1 << bit), BAD);
                due("bag with all and " + bit + " of " + knots, x.bag(all | 1 << bit), BAD);
            }
            due("bag(-1) of " + knots, x.bag(-1), BAD);
            due("bag(HIGH) of " + knots, x.bag(Trial.HIGH), BAD);
            due("count(3)", x.count(3), 0);
            if (knots == 0) continue;
            due("bag with all of " + knots, x.bag(all), 0);
            due("bag with the last of " + knots, x.bag(1 << knots - 1), 1);
            due("bagged(0, 0)", x.bagged(0, 0), all);
        }
        for (int bad : new int[] {8, 15, 12, -1, -8, Trial.LOW, Trial.HIGH, Trial.LOW | 7}) {
            Trial.changesNothing(Nets::small, "bag(" + bad + ")", y -> y.bag(bad), BAD);
        }
        for (int bad : new int[] {1, 2, -1, Trial.LOW, Trial.HIGH}) {
            Trial.changesNothing(Nets::none, "bag(" + bad + ")", y -> y.bag(bad), BAD);
        }
    }

    private static void bagsUntilFull() {
        BagTree x = Nets.loose(1);
        for (int i = 0; i < 14; i++) {
            due("bag(1)", x.bag(1), i);
            due("count(3)", x.count(3), i + 1);
        }
        due("bag(1), the fifteenth", x.bag(1), FULL);
        bagsAre(x, 1, 1, 1, 2, 1, 3, 1, 4, 1, 5, 1, 6, 1, 7, 1, 8, 1, 9, 1, 10, 1, 11, 1, 12, 1, 13, 1, NONE);
        for (int mask : new int[] {1, ALL, 1 << 13}) {
            Trial.changesNothing(Nets::full, "bag(" + mask + ")", y -> y.bag(mask), FULL);
        }
        BagTree thirteen = Nets.made(Nets.path(13));
        due("bag(1) behind 13 that were made", thirteen.bag(1), 13);
        due("bag(1) behind 14", thirteen.bag(1), FULL);
    }

    private static void bagBadBeforeFull() {
        for (int bad : new int[] {0, 1 << 14, ALL + 2, -1, Trial.LOW, Trial.HIGH}) {
            Trial.changesNothing(Nets::full, "bag(" + bad + ")", y -> y.bag(bad), BAD);
        }
        Trial.changesNothing(BagBoundaryTest::oneKnotManyBags, "bag(2)", y -> y.bag(2), BAD);
        Trial.changesNothing(BagBoundaryTest::oneKnotManyBags, "bag(0)", y -> y.bag(0), BAD);
        Trial.changesNothing(BagBoundaryTest::oneKnotManyBags, "bag(1)", y -> y.bag(1), FULL);
    }

    private static BagTree oneKnotManyBags() {
        BagTree x = Nets.loose(1);
        for (int i = 0; i < 14; i++) x.bag(1);
        return x;
    }

    private static void bagUps() {
        BagTree x = Nets.loose(3);
        due("bag(1)", x.bag(1), 0);
        bagsAre(x, 1, NONE);
        due("bag(2)", x.bag(2), 1);
        bagsAre(x, 1, 1, 2, NONE);
        due("bag(2), alike", x.bag(2), 2);
        x.hang(0, 2);
        due("bag(7)", x.bag(7), 3);
        bagsAre(x, 1, 2, 2, 2, 2, 3, 7, NONE);
        BagTree made = inTurn(Nets.star(3));
        due("bag(5) behind a tree that was made", made.bag(5), 3);
        bagsAre(made, 7, 1, 6, 2, 4, 3, 5, NONE);
        due("count(2): THE ROW stays", made.count(2), 3);
    }

    // ---- hang and bagged

    private static void hangNoBag() {
        for (Supplier<BagTree> net : ANY) {
            int bags = net.get().count(3);
            for (int no : Trial.outside(0, bags - 1)) {
                Trial.changesNothing(net, "hang(0, " + no + ") of " + bags, y -> y.hang(0, no), NONE);
                Trial.changesNothing(net, "hang(" + no + ", " + (bags - 1) + ")", y -> y.hang(no, bags - 1), NONE);
            }
        }
        Trial.changesNothing(Nets::none, "hang(0, 0)", y -> y.hang(0, 0), NONE);
        Trial.changesNothing(Nets::bare, "hang(0, 1)", y -> y.hang(0, 1), NONE);
    }

    private static void hangTheLast() {
        for (int up = 0; up < 14; up++) {
            int to = up;
            Trial.changesNothing(Nets::full, "hang(13, " + up + ")", y -> y.hang(13, to), BAD);
        }
        BagTree one = Nets.withBags(Nets.loose(1), 1);
        due("hang(0, 0) of one alone", one.hang(0, 0), BAD);
        due("bagged(0, 1)", one.bagged(0, 1), NONE);
        due("bag(1)", one.bag(1), 1);
        due("hang(0, 1) when it is no longer the last", one.hang(0, 1), 1);
    }

    private static void hangNotAbove() {
        for (int bag = 0; bag < 13; bag++) {
            for (int up = 0; up <= bag; up++) {
                int from = bag, to = up;
                Trial.changesNothing(Nets::full, "hang(" + bag + ", " + up + ")", y -> y.hang(from, to), BAD);
            }
        }
    }

    private static void hangNoneBeforeBad() {
        Trial.changesNothing(Nets::small, "hang(3, 4): the last one, no bag", y -> y.hang(3, 4), NONE);
        Trial.changesNothing(Nets::small, "hang(3, -1): the last one, no bag", y -> y.hang(3, -1), NONE);
        Trial.changesNothing(Nets::small, "hang(4, 0): no bag, not above", y -> y.hang(4, 0), NONE);
        Trial.changesNothing(Nets::small, "hang(4, 4): no bag, alike", y -> y.hang(4, 4), NONE);
        Trial.changesNothing(Nets::small, "hang(1, -1): no bag, not above", y -> y.hang(1, -1), NONE);
        Trial.changesNothing(Nets::full, "hang(13, 14)", y -> y.hang(13, 14), NONE);
    }

    private static void hangAnswers() {
        BagTree x = Nets.loose(1);
        for (int i = 0; i < 14; i++) x.bag(1);
        due("hang(0, 13), the farthest", x.hang(0, 13), 1);
        due("hang(0, 1), the nearest", x.hang(0, 1), 13);
        due("hang(0, 1), as it is", x.hang(0, 1), 1);
        due("hang(12, 13), the only one", x.hang(12, 13), 13);
        for (int i = 0; i < 13; i++) due("hang(" + i + ", 13)", x.hang(i, 13), i + 1);
        due("bagged(13, 2)", x.bagged(13, 2), 13);
        for (int i = 0; i < 13; i++) due("bagged(" + i + ", 1)", x.bagged(i, 1), 13);
        Trial.changesNothing(Nets::small, "hang(0, 2), as it is", y -> y.hang(0, 2), 2);
    }

    private static void baggedRefused() {
        for (Supplier<BagTree> net : ANY) {
            int bags = net.get().count(3);
            for (int no : Trial.outside(0, bags - 1)) {
                for (int what = 0; what < 3; what++) {
                    int asked = what;
                    Trial.changesNothing(net, "bagged(" + no + ", " + what + ")", y -> y.bagged(no, asked), NONE);
                }
            }
        }
        for (int no : Trial.outside(0, 2)) {
            Trial.changesNothing(Nets::small, "bagged(0, " + no + ")", y -> y.bagged(0, no), NONE);
            Trial.changesNothing(Nets::small, "bagged(4, " + no + ")", y -> y.bagged(4, no), NONE);
        }
    }

    private static void baggedAnswers() {
        Trial.changesNothing(Nets::small, "bagged(0, 0)", y -> y.bagged(0, 0), 3);
        Trial.changesNothing(Nets::small, "bagged(0, 1)", y -> y.bagged(0, 1), 2);
        Trial.changesNothing(Nets::small, "bagged(0, 2): none", y -> y.bagged(0, 2), 0);
        Trial.changesNothing(Nets::small, "bagged(2, 2): two", y -> y.bagged(2, 2), 2);
        Trial.changesNothing(Nets::small, "bagged(3, 0), the last one", y -> y.bagged(3, 0), 4);
        Trial.changesNothing(Nets::small, "bagged(3, 1), the last one", y -> y.bagged(3, 1), NONE);
        Trial.changesNothing(Nets::small, "bagged(3, 2), the last one", y -> y.bagged(3, 2), 1);
        BagTree all = Nets.withBags(Nets.loose(14), ALL);
        due("bagged(0, 0) of all", all.bagged(0, 0), ALL);
        due("bagged(0, 1) of one alone", all.bagged(0, 1), NONE);
        due("bagged(0, 2) of one alone", all.bagged(0, 2), 0);
    }

    // ---- sound and width

    private static void soundWithoutBags() {
        Trial.changesNothing(Nets::none, "sound()", y -> y.sound(), STATE);
        Trial.changesNothing(Nets::bare, "sound()", y -> y.sound(), STATE);
        BagTree x = Nets.small();
        due("sound()", x.sound(), 0);
        x.clear();
        due("sound() behind clear()", x.sound(), STATE);
    }

    /** Each pair of 14 knots, when it alone is in no bag together, and with a greater one beside it. */
    private static void soundOfEdges() {
        for (int a = 0; a < 14; a++) {
            for (int b = a + 1; b < 14; b++) {
                BagTree x = Nets.loose(14);
                x.edge(b, a, 0);
                Nets.withBags(x, ALL & ~(1 << a), ALL & ~(1 << b));
                due("sound() without " + a + " and " + b + " together", x.sound(), 1 + 16 * a + b);
                due("count(5)", x.count(5), 0);
                x.bag(1 << a | 1 << b);
                due("sound() with them", x.sound() > 0 && x.sound() < 1000 ? 1 : 0, 0);
            }
        }
        BagTree x = Nets.withBags(Nets.clique(4), 1, 2, 4, 8);
        due("sound(): 0 and 1", x.sound(), 2);
        x.cut(0, 1);
        due("sound(): 0 and 2, then 1 and 2", x.sound(), 3);
        x.cut(0, 2);
        x.cut(0, 3);
        due("sound(): 1 and 2", x.sound(), 19);
        BagTree first = Nets.loose(4);
        first.edge(0, 3, 1);
        first.edge(1, 2, 1);
        Nets.withBags(first, 8);
        due("sound(): the least a before the least b", first.sound(), 4);
    }

    private static void soundOfMissing() {
        for (int k = 0; k < 14; k++) {
            BagTree x = Nets.withBags(Nets.loose(14), ALL & ~(1 << k));
            due("sound() without " + k, x.sound(), 1001 + k);
            due("count(5)", x.count(5), 0);
            x.bag(1 << k);
            due("sound() with it", x.sound(), 0);
        }
        due("sound(): the least of several", Nets.withBags(Nets.loose(4), 1).sound(), 1002);
        // An edge is told before a missing knot of less number.
        BagTree edge = Nets.loose(4);
        edge.edge(2, 3, 1);
        Nets.withBags(edge, 2);
        due("sound(): an edge first", edge.sound(), 1 + 32 + 3);
        edge.cut(2, 3);
        due("sound(): then the knot", edge.sound(), 1001);
    }

    private static void soundOfScattered() {
        for (int k = 0; k < 14; k++) {
            BagTree x = Nets.withBags(Nets.loose(14), 1 << k, ALL & ~(1 << k), 1 << k);
            due("sound() with " + k + " twice", x.sound(), 2001 + k);
            due("count(5)", x.count(5), 0);
            x.hang(0, 2);
            due("sound() when they hang together", x.sound(), 0);
        }
        due("sound(): the least of several", Nets.withBags(Nets.loose(4), 6, 9, 6).sound(), 2002);
        // A missing knot is told before a scattered one of less number.
        BagTree x = Nets.withBags(Nets.loose(4), 1, 6, 1);
        due("sound(): a missing one first", x.sound(), 1004);
        x.bag(8);
        due("sound(): then the scattered one", x.sound(), 2001);
        // Two that hang on the same bag without it are apart, and so are two with a bag between them.
        BagTree beside = Nets.withBags(Nets.loose(2), 1, 1, 2);
        due("sound(): one behind the other", beside.sound(), 0);
        beside.hang(0, 2);
        due("sound(): beside one another", beside.sound(), 2001);
        BagTree three = Nets.withBags(Nets.loose(2), 1, 3, 1, 2, 3);
        due("sound(): with a gap in two", three.sound(), 2001);
        three.hang(2, 4);
        due("sound(): one gap less", three.sound(), 2002);
        three.hang(1, 4);
        due("sound(): 0 hangs together by 1 and 2", three.sound(), 0);
    }

    private static void soundTrees() {
        due("sound() of one", Nets.withBags(Nets.loose(1), 1).sound(), 0);
        due("sound() of one in 14 bags", oneKnotManyBags().sound(), 0);
        due("sound() of all in one bag", Nets.withBags(Nets.clique(14), ALL).sound(), 0);
        for (int knots = 1; knots <= 14; knots++) {
            due("sound() of a path that was made", Nets.made(Nets.path(knots)).sound(), 0);
            due("sound() of a star that was made", inTurn(Nets.star(knots)).sound(), 0);
            due("sound() of loose ones that were made", inTurn(Nets.loose(knots)).sound(), 0);
        }
        BagTree x = Nets.made(Nets.path(14));
        x.edge(0, 13, 1);
        due("sound() when an edge came", x.sound(), 14);
        x.cut(13, 0);
        due("sound() when it went", x.sound(), 0);
    }

    private static void soundChangesNothing() {
        int[] want = {STATE, 0, STATE, 4, 0, 0};
        for (int i = 0; i < want.length; i++) Trial.changesNothing(ANY.get(i), "sound()", y -> y.sound(), want[i]);
    }

    private static void widthWithoutBags() {
        Trial.changesNothing(Nets::none, "width()", y -> y.width(), NONE);
        Trial.changesNothing(Nets::bare, "width()", y -> y.width(), NONE);
    }

    private static void widthAnswers() {
        int[] want = {NONE, 1, NONE, 1, 5, 4};
        for (int i = 0; i < want.length; i++) Trial.changesNothing(ANY.get(i), "width()", y -> y.width(), want[i]);
        for (int knots = 1; knots <= 14; knots++) {
            BagTree x = Nets.withBags(Nets.loose(14), 1, (1 << knots) - 1, 1 << 13);
            due("width() of a bag of " + knots, x.width(), knots - 1);
            due("width() of " + knots + " joined", Nets.made(Nets.clique(knots)).width(), knots - 1);
        }
        // It is told of trees that are not sound too.
        due("width() that is not sound", Nets.withBags(Nets.clique(14), 1 << 13).width(), 0);
    }

    // ---- separator

    private static void separatorRefused() {
        Trial.changesNothing(Nets::none, "separator()", y -> y.separator(), STATE);
        Trial.changesNothing(Nets::bare, "separator()", y -> y.separator(), STATE);
        Trial.changesNothing(Nets::unsound, "separator()", y -> y.separator(), STATE);
        due("separator() with a missing knot", Nets.withBags(Nets.loose(2), 1).separator(), STATE);
        due("separator() with a scattered knot", Nets.withBags(Nets.loose(2), 1, 2, 1).separator(), STATE);
        due("separator() with a loose edge", Nets.withBags(Nets.path(2), 1, 2).separator(), STATE);
        // Width 4 bounds questions about ways alone.
        Trial.changesNothing(Nets::wide, "separator() of width 5", y -> y.separator(), 0);
        due("separator() of width 13", Nets.made(Nets.clique(14)).separator(), 0);
    }

    /**
     * A path whose bags are told from its begin: bag i leaves i knots before it and, less two, the others behind it. A
     * sound tree always has such a bag, so that NONE is never due.
     */
    private static void separatorHalves() {
        int[] want = {NONE, 0, 0, 0, 0, 1, 1, 2, 2, 3, 3, 4, 4, 5, 5};
        for (int knots = 1; knots <= 14; knots++) {
            due("separator() of a path of " + knots, inTurn(Nets.path(knots)).separator(), want[knots]);
        }
        // Of five, three that are joined are too many; of six they are not.
        BagTree five = Nets.loose(5);
        five.edge(0, 1, 1);
        five.edge(1, 2, 1);
        Nets.withBags(five, 24, 3, 6);
        due("separator() of three in five", five.separator(), 1);
        BagTree six = Nets.loose(6);
        six.edge(0, 1, 1);
        six.edge(1, 2, 1);
        Nets.withBags(six, 56, 3, 6);
        due("separator() of three in six", six.separator(), 0);
        due("separator() of one", Nets.made(Nets.loose(1)).separator(), 0);
        due("separator() of two that are loose", Nets.made(Nets.loose(2)).separator(), 0);
    }

    private static void separatorJoins() {
        // All hang on 0: without it each is alone, with it they are one.
        BagTree star = Nets.loose(14);
        for (int k = 1; k < 13; k++) star.edge(13, k, 1);
        star.edge(0, 1, 1);
        Nets.withBags(star, 3);
        for (int k = 1; k < 13; k++) star.bag(1 << 13 | 1 << k);
        due("separator() of a star", star.separator(), 1);
        // Loose knots are joined by nothing, though they share bags.
        BagTree loose = Nets.withBags(Nets.loose(6), 1, 62);
        due("separator() of loose ones in a bag", loose.separator(), 0);
        loose.edge(1, 2, 1);
        loose.edge(3, 4, 1);
        due("separator() of two pairs", loose.separator(), 0);
        loose.edge(2, 3, 1);
        due("separator() of four in a row", loose.separator(), 1);
        loose.cut(1, 2);
        due("separator() of three in a row", loose.separator(), 0);
        // A long way round joins too: 1 and 6 meet only by 2, 3, 4, 5.
        BagTree round = inTurn(Nets.ring(7));
        due("separator() of a ring", round.separator(), 1);
    }

    private static void separatorIsFirst() {
        BagTree x = Nets.withBags(Nets.path(3), 2, 2, 3, 6, 4);
        x.hang(0, 2);
        due("separator() of alike ones", x.separator(), 0);
        due("separator() of all in one bag", Nets.withBags(Nets.clique(14), ALL).separator(), 0);
        BagTree late = Nets.withBags(Nets.path(3), 1, 3, 6);
        due("separator() that is not the first bag", late.separator(), 1);
        Trial.changesNothing(Nets::small, "separator()", y -> y.separator(), 0);
        // Bag i has i to i + 4, and of the 14 no more than 7 may be left behind it.
        Trial.changesNothing(Nets::full, "separator()", y -> y.separator(), 2);
    }
}
