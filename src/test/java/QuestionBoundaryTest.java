import java.util.List;
import java.util.function.Supplier;

/** The boundaries that the document names for questions: promises 27 to 33. */
public final class QuestionBoundaryTest {
    private static final int NONE = -1, STATE = -4;
    private static final long NO = Long.MIN_VALUE;
    private static final long MOST_WAYS = 1L << 28;
    private static final List<Supplier<BagTree>> ANY =
        List.of(Nets::none, Nets::small, Nets::bare, Nets::unsound, Nets::wide, Nets::full, Nets::wayless);
    /** Nets with knots whose tree is not there, not sound in each of the three ways, or too wide. */
    private static final List<Supplier<BagTree>> REFUSED = List.of(
        Nets::bare, Nets::unsound, Nets::wide, QuestionBoundaryTest::missing, QuestionBoundaryTest::scattered,
        QuestionBoundaryTest::wideBySixLoose);
    private static final List<Supplier<BagTree>> ASKED =
        List.of(Nets::small, Nets::full, Nets::wayless, QuestionBoundaryTest::fiveJoined);

    public static void main(String[] args) {
        Trial.about("27: NO: STATE");
        waysRefused();
        Trial.about("27: How many WAYS there are");
        waysAnswers();
        Trial.about("its WIDTH is 4 at most");
        widestThatMayBeAsked();
        Trial.about("Questions need THE TREE, that it is SOUND");
        treeComesAndGoes();
        Trial.about("they do not depend on which it is");
        anyTreeWillDo();
        Trial.about("28: NO: STATE, or there is no WAY");
        bestRefused();
        Trial.about("28: The greatest (most false: least) SUM of WAYS");
        bestAnswers();
        Trial.about("28: FACTORS and WEIGHTS at their limits");
        bestAtLimits();
        Trial.about("29: NO: as of best()");
        bestsRefused();
        Trial.about("29: How many WAYS have that SUM");
        bestsAnswers();
        Trial.about("30: NONE");
        choiceOfNoKnot();
        Trial.about("30: NONE: also without a WAY");
        choiceWithoutWay();
        Trial.about("30: STATE");
        choiceWithoutTree();
        Trial.about("30: The STATE of a KNOT in the first WAY with that SUM");
        choiceAnswers();
        Trial.about("31: NONE");
        drawnOfNoKnot();
        Trial.about("31: NONE there is no such WAY");
        drawnOfNoWay();
        Trial.about("31: STATE");
        drawnWithoutTree();
        Trial.about("31: The STATE of a KNOT in WAY n, from 0 on");
        drawnAnswers();
        Trial.about("32: NO: STATE, none such");
        shareRefused();
        Trial.about("32: Of all WAYS how many give a KNOT a STATE");
        shareAnswers();
        Trial.about("33: NONE");
        countRefused();
        Trial.about("33: 0 KNOTS, 1 EDGES, 2 KNOTS of THE ROW, 3 BAGS, 4 q");
        countAnswers();
        Trial.about("33: 5 whether THE TREE is there and SOUND (1, 0)");
        countOfSound();
        Trial.about("27 to 32: a question changes nothing");
        questionsChangeNothing();
        Trial.end();
    }

    private static void due(String call, long got, long want) {
        Trial.due(call, got, want);
    }

    private static BagTree missing() {
        return Nets.withBags(Nets.loose(3), 3);
    }

    private static BagTree scattered() {
        return Nets.withBags(Nets.loose(3), 1, 6, 1);
    }

    private static BagTree wideBySixLoose() {
        return Nets.withBags(Nets.loose(7), 64, 63, 1);
    }

    private static BagTree fiveJoined() {
        return Nets.made(Nets.clique(5));
    }

    /** 14 loose knots in four states: as many ways as there can be. */
    private static BagTree mostWays() {
        BagTree x = Nets.made(Nets.loose(14));
        x.states(4);
        return x;
    }

    /** States 1 that may not be beside one another, and count the weights. */
    private static BagTree apart(BagTree x) {
        x.factor(1, 1);
        x.pair(1, 1, 0, 0);
        return x;
    }

    // ---- ways, and what every question needs

    private static void waysRefused() {
        Trial.changesNothing(Nets::none, "ways()", y -> y.ways(), NO);
        for (Supplier<BagTree> net : REFUSED) Trial.changesNothing(net, "ways()", y -> y.ways(), NO);
    }

    private static void waysAnswers() {
        for (int q = 1; q <= 4; q++) {
            long want = 1;
            for (int knots = 1; knots <= 14; knots++) {
                BagTree x = Nets.made(Nets.loose(knots));
                x.states(q);
                want *= q;
                due("ways() of " + knots + " with " + q, x.ways(), want);
            }
        }
        due("ways(), the most", mostWays().ways(), MOST_WAYS);
        Trial.changesNothing(Nets::wayless, "ways() when there is none", y -> y.ways(), 0);
        BagTree one = apart(Nets.made(Nets.path(2)));
        due("ways() of three", one.ways(), 3);
        one.forbid(0, 1);
        due("ways() of one", one.ways(), 1);
        one.forbid(1, 1);
        due("ways() of none", one.ways(), 0);
    }

    private static void widestThatMayBeAsked() {
        for (int knots = 1; knots <= 14; knots++) {
            BagTree x = Nets.made(Nets.clique(knots));
            boolean may = knots <= 5;
            due("ways() of " + knots + " joined", x.ways(), may ? 1L << knots : NO);
            due("best(true)", x.best(true), may ? 0 : NO);
            due("bests(true)", x.bests(true), may ? 1L << knots : NO);
            due("choice(true, 0)", x.choice(true, 0), may ? 0 : STATE);
            due("drawn(0, 0)", x.drawn(0, 0), may ? 0 : STATE);
            due("share(0, 0)", x.share(0, 0), may ? 1L << knots - 1 : NO);
            due("count(5)", x.count(5), 1);
        }
        // The width of the tree counts, not how wide it needs to be.
        BagTree loose = Nets.withBags(Nets.loose(14), 63, 16383 & ~63);
        due("ways() with bags of six and eight", loose.ways(), NO);
        loose.clear();
        Nets.withBags(loose, 31, 31 << 5, 15 << 10);
        due("ways() with bags of five", loose.ways(), 16384);
        loose.clear();
        Nets.withBags(loose, 31, 63 << 5, 7 << 11);
        due("ways() with one bag of six", loose.ways(), NO);
    }

    private static void treeComesAndGoes() {
        BagTree x = Nets.path(3);
        due("ways() without a tree", x.ways(), NO);
        x.fewest();
        due("ways() with a row alone", x.ways(), NO);
        x.make();
        due("ways() with a tree", x.ways(), 8);
        x.wipe();
        due("ways() without the row", x.ways(), 8);
        x.edge(0, 2, 1);
        due("ways() when an edge came", x.ways(), NO);
        due("choice(true, 0) when an edge came", x.choice(true, 0), STATE);
        x.bag(5);
        due("sound() when both ends are in a bag", x.sound(), 2001);
        due("ways() when both ends are in a bag", x.ways(), NO);
        x.cut(0, 2);
        due("ways() when the edge went, but a bag is too many", x.ways(), NO);
        x.clear();
        due("ways() without bags", x.ways(), NO);
        x.bag(7);
        due("ways() with one bag", x.ways(), 8);
        x.edge(0, 2, 1);
        due("ways() with one bag and three edges", x.ways(), 8);
        x.knot(1);
        due("ways() when a knot came", x.ways(), NO);
    }

    /** The same net and law with trees of many kinds: each answer is the same. */
    private static void anyTreeWillDo() {
        int[][] trees = {{31}, {3, 6, 12, 24}, {24, 12, 6, 3}, {7, 14, 28}, {1, 3, 2, 6, 4, 12, 8, 24, 16}, {31, 31, 31, 1}};
        long[] want = null;
        for (int[] masks : trees) {
            BagTree x = Nets.withBags(Nets.path(5), masks);
            x.states(3);
            for (int s = 0; s < 3; s++) {
                x.factor(s, 2 - 3 * s);
                x.pair(s, 2, s % 2, 4 - 3 * s);
            }
            due("sound()", x.sound(), 0);
            long[] got = answers(x);
            if (want == null) want = got;
            for (int i = 0; i < want.length; i++) due("question " + i + " with a bag " + masks[0], got[i], want[i]);
        }
    }

    private static long[] answers(BagTree x) {
        long[] found = new long[5 + 5 * 5];
        int i = 0;
        found[i++] = x.ways();
        for (boolean most : new boolean[] {true, false}) {
            found[i++] = x.best(most);
            found[i++] = x.bests(most);
        }
        for (int k = 0; k < 5; k++) {
            found[i++] = x.choice(true, k);
            found[i++] = x.choice(false, k);
            found[i++] = x.drawn(7, k);
            found[i++] = x.share(k, 0);
            found[i++] = x.share(k, 2);
        }
        return found;
    }

    // ---- best and bests

    private static void bestRefused() {
        for (boolean most : new boolean[] {true, false}) {
            Trial.changesNothing(Nets::none, "best(" + most + ")", y -> y.best(most), NO);
            for (Supplier<BagTree> net : REFUSED) Trial.changesNothing(net, "best(" + most + ")", y -> y.best(most), NO);
            Trial.changesNothing(Nets::wayless, "best(" + most + ") without a way", y -> y.best(most), NO);
        }
        BagTree x = Nets.made(Nets.path(2));
        x.forbid(1, 3);
        due("best(true) when all is forbidden", x.best(true), NO);
        x.forbid(1, 0);
        due("best(true) when nothing is", x.best(true), 0);
        for (int s = 0; s < 2; s++) for (int t = 0; t < 2; t++) x.pair(s, t, 0, 0);
        due("best(true) when nothing may be", x.best(true), NO);
        x.pair(1, 1, 1, -7);
        due("best(true) of one way", x.best(true), -7);
        due("best(false) of one way", x.best(false), -7);
    }

    private static void bestAnswers() {
        BagTree x = Nets.made(Nets.path(3));
        due("best(true) when all factors are 0", x.best(true), 0);
        due("best(false) when all factors are 0", x.best(false), 0);
        x.factor(0, -1);
        x.factor(1, -2);
        due("best(true), when all are below 0", x.best(true), -6);
        due("best(false), when all are below 0", x.best(false), -12);
        x.factor(0, 1);
        x.factor(1, 2);
        due("best(true), when all are above 0", x.best(true), 12);
        due("best(false), when all are above 0", x.best(false), 6);
        for (int k = 0; k < 3; k++) x.weigh(k, 0);
        due("best(true) without weights", x.best(true), 0);
        x.pair(0, 1, 1, 3);
        due("best(true) of edges alone", x.best(true), 6);
        x.edge(0, 1, 0);
        x.edge(1, 2, 0);
        due("best(true) of edges without weights", x.best(true), 0);
    }

    private static void bestAtLimits() {
        for (int sign = -1; sign <= 1; sign += 2) {
            BagTree x = Nets.full();
            x.states(4);
            for (int a = 0; a < 14; a++) {
                x.weigh(a, 1000);
                for (int b = Math.max(0, a - 4); b < a; b++) x.edge(a, b, 1000);
            }
            x.factor(3, 10 * sign);
            x.pair(3, 3, 1, 10 * sign);
            boolean most = sign > 0;
            due("count(1)", x.count(1), 46);
            due("best(" + most + "), the farthest from 0", x.best(most), 600000L * sign);
            due("bests(" + most + ")", x.bests(most), 1);
            for (int k = 0; k < 14; k++) due("choice(" + most + ", " + k + ")", x.choice(most, k), 3);
            due("best(" + !most + ")", x.best(!most), 0);
            for (int k = 0; k < 14; k++) x.forbid(k, 7);
            due("best(" + !most + ") of one way", x.best(!most), 600000L * sign);
        }
    }

    private static void bestsRefused() {
        for (boolean most : new boolean[] {true, false}) {
            Trial.changesNothing(Nets::none, "bests(" + most + ")", y -> y.bests(most), NO);
            for (Supplier<BagTree> net : REFUSED) Trial.changesNothing(net, "bests(" + most + ")", y -> y.bests(most), NO);
            Trial.changesNothing(Nets::wayless, "bests(" + most + ") without a way", y -> y.bests(most), NO);
        }
    }

    private static void bestsAnswers() {
        BagTree all = mostWays();
        due("bests(true) of all ways", all.bests(true), MOST_WAYS);
        due("bests(false) of all ways", all.bests(false), MOST_WAYS);
        all.weigh(13, 1);
        all.factor(2, 1);
        all.factor(3, -1);
        for (int k = 0; k < 13; k++) all.weigh(k, 0);
        due("bests(true) of those with one state of a knot", all.bests(true), MOST_WAYS / 4);
        due("bests(false) of those with another", all.bests(false), MOST_WAYS / 4);
        BagTree x = Nets.made(Nets.loose(3));
        x.factor(1, 1);
        due("bests(true), only one", x.bests(true), 1);
        due("bests(false), only one", x.bests(false), 1);
        x.weigh(1, 0);
        due("bests(true), two", x.bests(true), 2);
        x.forbid(1, 2);
        due("bests(true), one of the two", x.bests(true), 1);
    }

    // ---- choice

    private static void choiceOfNoKnot() {
        for (Supplier<BagTree> net : ANY) {
            int knots = net.get().count(0);
            for (int no : Trial.outside(0, knots - 1)) {
                Trial.changesNothing(net, "choice(true, " + no + ")", y -> y.choice(true, no), NONE);
                Trial.changesNothing(net, "choice(false, " + no + ")", y -> y.choice(false, no), NONE);
            }
        }
    }

    private static void choiceWithoutWay() {
        for (int k = 0; k < 3; k++) {
            int knot = k;
            Trial.changesNothing(Nets::wayless, "choice(true, " + k + ")", y -> y.choice(true, knot), NONE);
            Trial.changesNothing(Nets::wayless, "choice(false, " + k + ")", y -> y.choice(false, knot), NONE);
        }
        // Without a tree it can't be told that there is no way.
        BagTree x = Nets.wayless();
        x.clear();
        due("choice(true, 0) without a tree", x.choice(true, 0), STATE);
        due("choice(true, 3) without a tree", x.choice(true, 3), NONE);
    }

    private static void choiceWithoutTree() {
        for (Supplier<BagTree> net : REFUSED) {
            int last = net.get().count(0) - 1;
            Trial.changesNothing(net, "choice(true, 0)", y -> y.choice(true, 0), STATE);
            Trial.changesNothing(net, "choice(false, " + last + ")", y -> y.choice(false, last), STATE);
            Trial.changesNothing(net, "choice(false, " + (last + 1) + ")", y -> y.choice(false, last + 1), NONE);
        }
    }

    private static void choiceAnswers() {
        BagTree all = mostWays();
        for (int k = 0; k < 14; k++) due("choice(true, " + k + ") when all are best", all.choice(true, k), 0);
        for (int k = 0; k < 14; k++) all.forbid(k, 7);
        for (int k = 0; k < 14; k++) due("choice(true, " + k + ") when 3 is left", all.choice(true, k), 3);
        // Of 2, 2, 4, 4 in a path the first and third, first and fourth, second and fourth are best: 0101 is first.
        BagTree x = apart(Nets.made(Nets.path(4)));
        int[] weights = {2, 2, 4, 4}, best = {0, 1, 0, 1};
        for (int k = 0; k < 4; k++) x.weigh(k, weights[k]);
        due("bests(true)", x.bests(true), 3);
        for (int k = 0; k < 4; k++) due("choice(true, " + k + ")", x.choice(true, k), best[k]);
        x.forbid(1, 2);
        int[] next = {1, 0, 0, 1};
        for (int k = 0; k < 4; k++) due("choice(true, " + k + ") without that", x.choice(true, k), next[k]);
        x.forbid(3, 2);
        int[] last = {1, 0, 1, 0};
        for (int k = 0; k < 4; k++) due("choice(true, " + k + ") without both", x.choice(true, k), last[k]);
        for (int k = 0; k < 4; k++) due("choice(false, " + k + ")", x.choice(false, k), 0);
        due("choice(true, 0) of one", Nets.made(Nets.loose(1)).choice(true, 0), 0);
    }

    // ---- drawn

    private static void drawnOfNoKnot() {
        for (Supplier<BagTree> net : ANY) {
            int knots = net.get().count(0);
            for (int no : Trial.outside(0, knots - 1)) {
                Trial.changesNothing(net, "drawn(0, " + no + ")", y -> y.drawn(0, no), NONE);
                Trial.changesNothing(net, "drawn(-1, " + no + ")", y -> y.drawn(-1, no), NONE);
            }
        }
    }

    private static void drawnOfNoWay() {
        long[] never = {-1, -2, Long.MIN_VALUE, Long.MAX_VALUE, 1L << 32, 1L << 31, 1L << 33, -1L << 32, 1L << 62};
        for (Supplier<BagTree> net : ASKED) {
            int last = net.get().count(0) - 1;
            long ways = net.get().ways();
            for (long n : never) {
                Trial.changesNothing(net, "drawn(" + n + ", 0)", y -> y.drawn(n, 0), NONE);
                Trial.changesNothing(net, "drawn(" + n + ", " + last + ")", y -> y.drawn(n, last), NONE);
            }
            Trial.changesNothing(net, "drawn(" + ways + ", 0): behind the last", y -> y.drawn(ways, 0), NONE);
            Trial.changesNothing(net, "drawn(" + ways + ", " + last + ")", y -> y.drawn(ways, last), NONE);
        }
        BagTree all = mostWays();
        due("drawn(4^14 - 1, 0)", all.drawn(MOST_WAYS - 1, 0), 3);
        due("drawn(4^14, 0)", all.drawn(MOST_WAYS, 0), NONE);
        due("drawn(2^32, 0): it is not 0", all.drawn(1L << 32, 0), NONE);
        due("drawn(2^32 - 1, 0)", all.drawn((1L << 32) - 1, 0), NONE);
        for (int k = 0; k < 3; k++) due("drawn(0, " + k + ") without a way", Nets.wayless().drawn(0, k), NONE);
    }

    private static void drawnWithoutTree() {
        for (Supplier<BagTree> net : REFUSED) {
            int last = net.get().count(0) - 1;
            Trial.changesNothing(net, "drawn(0, 0)", y -> y.drawn(0, 0), STATE);
            Trial.changesNothing(net, "drawn(1, " + last + ")", y -> y.drawn(1, last), STATE);
            Trial.changesNothing(net, "drawn(0, " + (last + 1) + ")", y -> y.drawn(0, last + 1), NONE);
            // No tree is needed to tell that there is no way before the first.
            Trial.changesNothing(net, "drawn(-1, 0)", y -> y.drawn(-1, 0), NONE);
        }
    }

    private static void drawnAnswers() {
        for (int q = 1; q <= 4; q++) {
            BagTree x = Nets.made(Nets.loose(3));
            x.states(q);
            for (int n = 0; n < q * q * q; n++) {
                due("drawn(" + n + ", 0) with " + q, x.drawn(n, 0), n / (q * q));
                due("drawn(" + n + ", 1) with " + q, x.drawn(n, 1), n / q % q);
                due("drawn(" + n + ", 2) with " + q, x.drawn(n, 2), n % q);
            }
            due("drawn behind the last with " + q, x.drawn(q * q * q, 0), NONE);
        }
        BagTree all = mostWays();
        for (int k = 0; k < 14; k++) {
            long here = 1L << 2 * (13 - k);
            due("drawn(0, " + k + ")", all.drawn(0, k), 0);
            due("drawn(last, " + k + ")", all.drawn(MOST_WAYS - 1, k), 3);
            due("drawn(" + (here - 1) + ", " + k + ")", all.drawn(here - 1, k), 0);
            due("drawn(" + here + ", " + k + ")", all.drawn(here, k), 1);
            due("drawn(" + 3 * here + ", " + k + ")", all.drawn(3 * here, k), 3);
        }
        // Ways that may not be have no number.
        BagTree x = apart(Nets.made(Nets.path(3)));
        x.forbid(2, 1);
        int[][] ways = {{0, 0, 1}, {1, 0, 1}};
        for (int n = 0; n < 2; n++) {
            for (int k = 0; k < 3; k++) due("drawn(" + n + ", " + k + ")", x.drawn(n, k), ways[n][k]);
        }
        due("drawn(2, 0)", x.drawn(2, 0), NONE);
    }

    // ---- share

    private static void shareRefused() {
        Trial.changesNothing(Nets::none, "share(0, 0)", y -> y.share(0, 0), NO);
        for (Supplier<BagTree> net : REFUSED) Trial.changesNothing(net, "share(0, 0)", y -> y.share(0, 0), NO);
        for (Supplier<BagTree> net : ASKED) {
            int knots = net.get().count(0), q = net.get().count(4);
            for (int no : Trial.outside(0, knots - 1)) {
                Trial.changesNothing(net, "share(" + no + ", 0)", y -> y.share(no, 0), NO);
            }
            for (int no : Trial.outside(0, q - 1)) {
                Trial.changesNothing(net, "share(0, " + no + ")", y -> y.share(0, no), NO);
                Trial.changesNothing(net, "share(" + (knots - 1) + ", " + no + ")", y -> y.share(knots - 1, no), NO);
            }
        }
    }

    private static void shareAnswers() {
        BagTree all = mostWays();
        for (int s = 0; s < 4; s++) {
            due("share(0, " + s + ")", all.share(0, s), MOST_WAYS / 4);
            due("share(13, " + s + ")", all.share(13, s), MOST_WAYS / 4);
        }
        due("share(0, 4)", all.share(0, 4), NO);
        all.forbid(0, 14);
        due("share(0, 0), the only one left", all.share(0, 0), MOST_WAYS / 4);
        due("share(0, 3), which is forbidden", all.share(0, 3), 0);
        due("share(13, 3)", all.share(13, 3), MOST_WAYS / 16);
        for (int k = 0; k < 3; k++) {
            for (int s = 0; s < 3; s++) due("share(" + k + ", " + s + ") without a way", Nets.wayless().share(k, s), 0);
        }
        BagTree one = Nets.made(Nets.loose(1));
        one.states(1);
        due("share(0, 0) of one way", one.share(0, 0), 1);
        due("share(0, 1) of one state", one.share(0, 1), NO);
        for (Supplier<BagTree> net : ASKED) sharesAreAllWays(net.get());
    }

    private static void sharesAreAllWays(BagTree x) {
        int knots = x.count(0), q = x.count(4);
        long ways = x.ways();
        for (int k = 0; k < knots; k++) {
            long sum = 0;
            for (int s = 0; s < q; s++) sum += x.share(k, s);
            due("all shares of " + k, sum, ways);
        }
    }

    // ---- count

    private static void countRefused() {
        for (Supplier<BagTree> net : ANY) {
            for (int no : Trial.outside(0, 5)) {
                Trial.changesNothing(net, "count(" + no + ")", y -> y.count(no), NONE);
            }
        }
    }

    private static void countAnswers() {
        int[][] want = {
            {0, 0, 0, 0, 2, 0}, {3, 2, 2, 4, 3, 1}, {4, 3, 4, 0, 3, 0}, {4, 4, 4, 4, 3, 0}, {6, 15, 6, 6, 2, 1},
            {14, 46, 14, 14, 4, 1}, {3, 2, 2, 4, 3, 1}
        };
        for (int i = 0; i < want.length; i++) {
            for (int what = 0; what < 6; what++) {
                int asked = what;
                Trial.changesNothing(ANY.get(i), "count(" + what + ")", y -> y.count(asked), want[i][what]);
            }
        }
        due("count(1), the most", Nets.clique(14).count(1), 91);
    }

    private static void countOfSound() {
        BagTree x = Nets.path(2);
        due("count(5) without bags", x.count(5), 0);
        x.bag(1);
        due("count(5) with a loose edge", x.count(5), 0);
        x.cut(0, 1);
        due("count(5) with a missing knot", x.count(5), 0);
        x.bag(2);
        due("count(5)", x.count(5), 1);
        x.bag(1);
        due("count(5) with a scattered knot", x.count(5), 0);
        x.hang(0, 2);
        due("count(5) when it hangs together", x.count(5), 1);
        x.clear();
        due("count(5) behind clear()", x.count(5), 0);
        // Only questions ask for width 4 at most, and there need be no way.
        due("count(5) of width 13", Nets.made(Nets.clique(14)).count(5), 1);
        due("count(5) without a way", Nets.wayless().count(5), 1);
    }

    private static void questionsChangeNothing() {
        Trial.changesNothing(Nets::small, "ways()", y -> y.ways(), Nets.small().ways());
        Trial.changesNothing(Nets::full, "ways()", y -> y.ways(), Nets.full().ways());
        Trial.changesNothing(Nets::full, "best(true)", y -> y.best(true), Nets.full().best(true));
        Trial.changesNothing(Nets::full, "bests(false)", y -> y.bests(false), Nets.full().bests(false));
        Trial.changesNothing(Nets::full, "choice(true, 13)", y -> y.choice(true, 13), Nets.full().choice(true, 13));
        Trial.changesNothing(Nets::full, "drawn(9, 13)", y -> y.drawn(9, 13), Nets.full().drawn(9, 13));
        Trial.changesNothing(Nets::full, "share(13, 3)", y -> y.share(13, 3), Nets.full().share(13, 3));
        BagTree x = Nets.small();
        long[] first = {x.ways(), x.share(1, 1), x.best(true), x.drawn(2, 2), x.choice(false, 2), x.bests(true)};
        long[] again = {x.ways(), x.share(1, 1), x.best(true), x.drawn(2, 2), x.choice(false, 2), x.bests(true)};
        for (int i = 0; i < first.length; i++) due("question " + i + " once more", again[i], first[i]);
    }
}
