import java.util.List;
import java.util.function.Supplier;

/**
 * What each call changes, in the order of the document: behind the call all that can be asked is answered as without
 * it, but for what the document says that the call changes.
 */
public final class ChangeTest {
    private static final int NONE = -1, BAD = -2, FULL = -3, STATE = -4;
    private static final long NO = Long.MIN_VALUE;

    private static final Supplier<BagTree> EMPTY = Nets::none, SMALL = Nets::small, UNEVEN = Nets::uneven;
    private static final Supplier<BagTree> BARE = Nets::bare, UNSOUND = Nets::unsound, WIDE = Nets::wide;
    private static final Supplier<BagTree> FILLED = Nets::full, WAYLESS = Nets::wayless;
    private static final Supplier<BagTree> ONE_BAG = ChangeTest::oneBag, EMPTY_ROW = ChangeTest::emptyRow;
    private static final Supplier<BagTree> OTHER_ROW = ChangeTest::otherRow, NO_ROW = ChangeTest::unevenWithoutRow;
    private static final List<Supplier<BagTree>> ANY = List.of(SMALL, UNEVEN, BARE, UNSOUND, WIDE, FILLED, WAYLESS);

    // The questions in which a change is felt, as patterns.
    private static final String ROW = "count\\(2\\)|row.*|put.*|wipe.*|fills.*|make.*";
    private static final String BAGS = "count\\([35]\\)|bagged.*|clear.*|bag\\(.*|hang.*|sound.*|width.*|separator.*";
    private static final String SOUND = "count\\(5\\)|sound.*|separator.*";
    private static final String SUMS = "(best|bests|choice)\\(.*";
    private static final String WAYS = "(ways|best|bests|choice|drawn|share)\\(.*";
    private static final String LAW = "(factor|pair|forbid)\\(.*";
    private static final String ORDERS = "below.*|fills.*|make.*|fewest.*|least.*";
    private static final String EDGE = "count\\(1\\)|" + ORDERS + "|" + SOUND + "|" + WAYS;

    public static void main(String[] args) {
        Trial.about("the calls that a net is made by, one behind the other");
        unevenIsAsTold();
        Trial.about("2: A KNOT more (THE ROW is empty then, there are no BAGS)");
        knot();
        Trial.about("3: An EDGE between two KNOTS: 1; 0: it was there, and has this WEIGHT now");
        edge();
        Trial.about("4: An EDGE goes: its WEIGHT");
        cut();
        Trial.about("5: A KNOT's WEIGHT becomes w: what it was");
        weigh();
        Trial.about("8: A KNOT comes to THE ROW");
        put();
        Trial.about("9: THE ROW is empty");
        wipe();
        Trial.about("10: THE TREE is that of THE ROW");
        make();
        Trial.about("12, 13: THE ROW is the ORDER; THE TREE stays");
        orders();
        Trial.about("16: There are no BAGS");
        clear();
        Trial.about("17: A BAG more, the last one, without UP; the one that was the last has it as UP");
        bag();
        Trial.about("18: A BAG's UP becomes another BAG");
        hang();
        Trial.about("23: q becomes n; all MAY be, FACTORS are 0, nothing is FORBIDDEN");
        states();
        Trial.about("24: A STATE's FACTOR");
        factor();
        Trial.about("25: The FACTOR of two STATES at an EDGE; may 0: they may not be");
        pair();
        Trial.about("26: The STATES that are FORBIDDEN for a KNOT");
        forbid();
        Trial.about("REFUSALS change nothing");
        refusals();
        Trial.about("a call that only asks changes nothing");
        onlyAsked();
        Trial.end();
    }

    private static String any(String... patterns) {
        return String.join("|", patterns);
    }

    /** The questions in which what two knots have with one another is felt, a before b. */
    private static String between(int a, int b) {
        return "(weight|cut|edge)\\(" + a + ", " + b + "\\)";
    }

    private static String beside(int a, int b) {
        return "beside\\((" + a + "|" + b + ")\\)";
    }

    /** What each call that made this net has told is still there: else twins could be wrong alike. */
    private static void unevenIsAsTold() {
        int[] counts = {5, 5, 2, 4, 3, 1}, row = {3, 1, NONE}, masks = {24, 14, 2, 3}, ups = {1, 3, 3, NONE};
        int[][] weights = {
            {1, 1, NONE, NONE, NONE}, {1, 2, 1, 13, NONE}, {NONE, 1, 3, 1, NONE}, {NONE, 13, 1, 4, 1},
            {NONE, NONE, NONE, 1, 5}
        };
        int[] factors = {96, 99, 102}, forbidden = {9, 0, 0, 0, 4};
        int[][] pairs = {{0, 103, 105}, {103, 99, 101}, {105, 101, 97}};
        for (int i = 0; i < 6; i++) Trial.due("count(" + i + ")", Nets.uneven().count(i), counts[i]);
        for (int i = 0; i < 3; i++) Trial.due("row(" + i + ")", Nets.uneven().row(i), row[i]);
        for (int i = 0; i < 4; i++) {
            Trial.due("bagged(" + i + ", 0)", Nets.uneven().bagged(i, 0), masks[i]);
            Trial.due("bagged(" + i + ", 1)", Nets.uneven().bagged(i, 1), ups[i]);
        }
        for (int a = 0; a < 5; a++) {
            for (int b = 0; b < 5; b++) Trial.due("weight(" + a + ", " + b + ")", Nets.uneven().weight(a, b), weights[a][b]);
            Trial.due("forbid(" + a + ", 0)", Nets.uneven().forbid(a, 0), forbidden[a]);
        }
        for (int s = 0; s < 3; s++) {
            Trial.due("factor(" + s + ", 0)", Nets.uneven().factor(s, 0), factors[s]);
            for (int t = 0; t < 3; t++) Trial.due("pair(" + s + ", " + t + ")", Nets.uneven().pair(s, t, 1, 0), pairs[s][t]);
        }
    }

    // ---- the net

    private static void knot() {
        for (Supplier<BagTree> net : ANY) {
            int knots = net.get().count(0);
            if (knots == 14) continue;
            String own = "(beside|weight|weigh|edge|forbid)\\((\\d+, )?" + knots + "(, \\d+)?\\)";
            String felt = any(own, "count\\(0\\)", "knot.*", ORDERS, ROW, BAGS, WAYS);
            Change.only(net, "knot(8)", y -> y.knot(8), knots, felt);
        }
    }

    private static void edge() {
        Change.only(SMALL, "edge(2, 0, 8)", y -> y.edge(2, 0, 8), 1, any(between(0, 2), beside(0, 2), EDGE));
        Change.only(UNEVEN, "edge(1, 4, 8)", y -> y.edge(1, 4, 8), 1, any(between(1, 4), beside(1, 4), EDGE));
        Change.only(BARE, "edge(1, 3, 8)", y -> y.edge(1, 3, 8), 1, any(between(1, 3), beside(1, 3), EDGE));
        // Two knots that share a bag: the tree stays sound.
        String sound = any(between(3, 4), beside(3, 4), "count\\(1\\)", ORDERS, SUMS);
        Change.only(ONE_BAG, "edge(3, 4, 8)", y -> y.edge(3, 4, 8), 1, sound);
        // The weight of an edge says nothing about which ways there are.
        Change.only(SMALL, "edge(1, 0, 8)", y -> y.edge(1, 0, 8), 0, any(between(0, 1), SUMS));
        Change.only(UNEVEN, "edge(3, 1, 8)", y -> y.edge(3, 1, 8), 0, any(between(1, 3), SUMS));
        Change.only(FILLED, "edge(13, 12, 8)", y -> y.edge(13, 12, 8), 0, any(between(12, 13), SUMS));
        Change.none(SMALL, "edge(0, 1, 11) once more", y -> y.edge(0, 1, 11), 0);
    }

    private static void cut() {
        Change.only(SMALL, "cut(2, 1)", y -> y.cut(2, 1), 12, any(between(1, 2), beside(1, 2), EDGE));
        Change.only(UNSOUND, "cut(0, 3)", y -> y.cut(0, 3), 2, any(between(0, 3), beside(0, 3), EDGE));
        // A tree that was sound stays so when an edge goes.
        String sound = any(between(1, 3), beside(1, 3), "count\\(1\\)", ORDERS, "separator.*", WAYS);
        Change.only(UNEVEN, "cut(1, 3)", y -> y.cut(1, 3), 13, sound);
        String wide = any(between(9, 13), beside(9, 13), "count\\(1\\)", ORDERS, "separator.*", WAYS);
        Change.only(FILLED, "cut(9, 13)", y -> y.cut(9, 13), 22, wide);
    }

    private static void weigh() {
        Change.only(SMALL, "weigh(1, 8)", y -> y.weigh(1, 8), 2, any("weight\\(1, 1\\)|weigh\\(1, .*", SUMS));
        Change.only(UNEVEN, "weigh(4, 8)", y -> y.weigh(4, 8), 5, any("weight\\(4, 4\\)|weigh\\(4, .*", SUMS));
        Change.only(FILLED, "weigh(13, 8)", y -> y.weigh(13, 8), 14, any("weight\\(13, 13\\)|weigh\\(13, .*", SUMS));
        // Here there is no sum that it could be felt in.
        for (Supplier<BagTree> net : List.of(BARE, UNSOUND, WIDE, WAYLESS)) {
            Change.only(net, "weigh(0, 8)", y -> y.weigh(0, 8), 1, "weight\\(0, 0\\)|weigh\\(0, .*");
        }
        Change.none(SMALL, "weigh(1, 2) once more", y -> y.weigh(1, 2), 2);
    }

    // ---- rows, bags

    /** Five knots in one bag, some of them joined, and a whole row. */
    private static BagTree oneBag() {
        BagTree x = Nets.path(5);
        x.cut(3, 4);
        x.least();
        x.bag(31);
        return x;
    }

    private static BagTree emptyRow() {
        BagTree x = Nets.full();
        x.wipe();
        return x;
    }

    private static BagTree unevenWithoutRow() {
        BagTree x = Nets.uneven();
        x.wipe();
        return x;
    }

    /** A whole row whose tree is not the one that there is, but one that may be asked too. */
    private static BagTree otherRow() {
        BagTree x = emptyRow();
        for (int k = 13; k >= 0; k--) x.put(k);
        return x;
    }

    private static void put() {
        String number = "count\\(2\\)|put.*|wipe.*";
        // The row is whole then.
        Change.only(SMALL, "put(1)", y -> y.put(1), 3, any(number, "row\\(2\\)|fills.*|make.*"));
        Change.only(UNEVEN, "put(4)", y -> y.put(4), 3, any(number, "row\\(2\\)"));
        Change.only(EMPTY_ROW, "put(13)", y -> y.put(13), 1, any(number, "row\\(0\\)"));
    }

    private static void wipe() {
        for (Supplier<BagTree> net : ANY) Change.only(net, "wipe()", y -> y.wipe(), net.get().count(2), ROW);
        Change.none(NO_ROW, "wipe() of none", y -> y.wipe(), 0);
    }

    private static void make() {
        // Both trees are sound and have width 4: no question about ways shows which one there is.
        Change.only(OTHER_ROW, "make()", y -> y.make(), 4, "bagged.*|hang.*|separator.*");
        Change.only(BARE, "make()", y -> y.make(), 1, any(BAGS, WAYS));
        Change.only(UNSOUND, "make()", y -> y.make(), 2, any(BAGS, WAYS));
        Change.none(FILLED, "make() once more", y -> y.make(), 4);
    }

    private static void orders() {
        int[] few = {1, 2, 1, 2, 5, 4, 1};
        for (int i = 0; i < few.length; i++) {
            Change.only(ANY.get(i), "fewest()", y -> y.fewest(), few[i], ROW);
            Change.only(ANY.get(i), "least()", y -> y.least(), few[i], ROW);
        }
        Change.only(OTHER_ROW, "least()", y -> y.least(), 4, ROW);
        Change.none(EMPTY, "fewest()", y -> y.fewest(), -1);
        Change.none(EMPTY, "least()", y -> y.least(), -1);
        Change.none(BARE, "least() once more", y -> y.least(), 1);
    }

    private static void clear() {
        for (Supplier<BagTree> net : ANY) {
            Change.only(net, "clear()", y -> y.clear(), net.get().count(3), any(BAGS, WAYS));
        }
        Change.none(BARE, "clear() of none", y -> y.clear(), 0);
    }

    private static void bag() {
        String more = "count\\(3\\)|clear.*|bag\\(.*|bagged\\((4, .*|3, 1\\))|hang\\([34], .*";
        // Knots that the bag that was the last one has too: the tree stays sound.
        Change.only(SMALL, "bag(4)", y -> y.bag(4), 4, more);
        Change.only(UNEVEN, "bag(1)", y -> y.bag(1), 4, more);
        Change.only(SMALL, "bag(2)", y -> y.bag(2), 4, any(more, SOUND, WAYS));
        Change.only(UNEVEN, "bag(30)", y -> y.bag(30), 4, any(more, "width.*", SOUND, WAYS));
        Change.only(BARE, "bag(15)", y -> y.bag(15), 0, any(BAGS, WAYS));
    }

    private static void hang() {
        // Bag 1 is knot 1 alone, which bag 2 has and bag 3 has not.
        String fromTwo = "bagged\\(1, 1\\)|bagged\\([23], 2\\)|hang\\(1, .*";
        Change.only(SMALL, "hang(1, 3)", y -> y.hang(1, 3), 2, any(fromTwo, SOUND, WAYS));
        Change.only(SMALL, "hang(0, 1)", y -> y.hang(0, 1), 2, "bagged\\(0, 1\\)|bagged\\([12], 2\\)|hang\\(0, .*");
        Change.only(UNEVEN, "hang(1, 2)", y -> y.hang(1, 2), 3, "bagged\\(1, 1\\)|bagged\\([23], 2\\)|hang\\(1, .*");
        Change.none(SMALL, "hang(0, 2) once more", y -> y.hang(0, 2), 2);
    }

    // ---- the law

    private static void states() {
        for (Supplier<BagTree> net : ANY) {
            int q = net.get().count(4);
            for (int n = 1; n <= 4; n++) {
                int size = n;
                String felt = n == q ? any(LAW, WAYS) : any("count\\(4\\)|states.*", LAW, WAYS);
                Change.only(net, "states(" + n + ")", y -> y.states(size), q, felt);
            }
        }
    }

    private static void factor() {
        Change.only(SMALL, "factor(2, 8)", y -> y.factor(2, 8), 102, any("factor\\(2, .*", SUMS));
        Change.only(UNEVEN, "factor(1, 8)", y -> y.factor(1, 8), 99, any("factor\\(1, .*", SUMS));
        Change.only(FILLED, "factor(0, 8)", y -> y.factor(0, 8), 96, any("factor\\(0, .*", SUMS));
        Change.only(UNSOUND, "factor(0, 8)", y -> y.factor(0, 8), 96, "factor\\(0, .*");
        Change.none(SMALL, "factor(2, 2) once more", y -> y.factor(2, 2), 102);
    }

    /** The questions in which two states at an edge are felt, either way round. */
    private static String two(int s, int t) {
        return "pair\\((" + s + ", " + t + "|" + t + ", " + s + ")\\)";
    }

    private static void pair() {
        Change.only(SMALL, "pair(1, 2, 1, 8)", y -> y.pair(1, 2, 1, 8), 101, any(two(1, 2), SUMS));
        Change.only(SMALL, "pair(2, 1, 0, 1)", y -> y.pair(2, 1, 0, 1), 101, any(two(1, 2), WAYS));
        Change.only(UNEVEN, "pair(0, 0, 1, 8)", y -> y.pair(0, 0, 1, 8), 0, any(two(0, 0), WAYS));
        Change.only(FILLED, "pair(3, 3, 0, 0)", y -> y.pair(3, 3, 0, 0), 95, any(two(3, 3), WAYS));
        Change.only(UNSOUND, "pair(2, 0, 0, 8)", y -> y.pair(2, 0, 0, 8), 105, two(0, 2));
        Change.none(SMALL, "pair(2, 1, 1, 1) once more", y -> y.pair(2, 1, 1, 1), 101);
        // Of two that may not be the factor counts for nothing.
        Change.none(SMALL, "pair(0, 0, 0, 8)", y -> y.pair(0, 0, 0, 8), 0);
    }

    private static void forbid() {
        Change.only(SMALL, "forbid(1, 4)", y -> y.forbid(1, 4), 0, any("forbid\\(1, .*", WAYS));
        Change.only(UNEVEN, "forbid(0, 2)", y -> y.forbid(0, 2), 9, any("forbid\\(0, .*", WAYS));
        Change.only(FILLED, "forbid(13, 3)", y -> y.forbid(13, 3), 4, any("forbid\\(13, .*", WAYS));
        Change.only(UNSOUND, "forbid(3, 15)", y -> y.forbid(3, 15), 4, "forbid\\(3, .*");
        Change.none(SMALL, "forbid(0, 9) once more", y -> y.forbid(0, 9), 9);
        // There is no state 3 that this could take from the ways.
        Change.only(SMALL, "forbid(1, 8)", y -> y.forbid(1, 8), 0, "forbid\\(1, .*");
    }

    // ---- calls that change nothing

    private static void refusals() {
        refusedByNet();
        refusedByRowAndBags();
        refusedByLaw();
        refusedQuestions();
    }

    private static void refusedByNet() {
        Change.none(UNEVEN, "knot(1001)", y -> y.knot(1001), BAD);
        Change.none(FILLED, "knot(8)", y -> y.knot(8), FULL);
        Change.none(UNEVEN, "edge(0, 5, 8)", y -> y.edge(0, 5, 8), NONE);
        Change.none(UNEVEN, "edge(2, 2, 8)", y -> y.edge(2, 2, 8), BAD);
        Change.none(UNEVEN, "edge(0, 1, 1001)", y -> y.edge(0, 1, 1001), BAD);
        Change.none(UNEVEN, "cut(0, 4)", y -> y.cut(0, 4), NONE);
        Change.none(UNEVEN, "weigh(5, 8)", y -> y.weigh(5, 8), NONE);
        Change.none(UNEVEN, "weigh(4, -1)", y -> y.weigh(4, -1), BAD);
    }

    private static void refusedByRowAndBags() {
        Change.none(UNEVEN, "put(5)", y -> y.put(5), NONE);
        Change.none(UNEVEN, "put(3)", y -> y.put(3), BAD);
        Change.none(UNEVEN, "make()", y -> y.make(), STATE);
        Change.none(EMPTY, "make()", y -> y.make(), STATE);
        Change.none(UNEVEN, "bag(32)", y -> y.bag(32), BAD);
        Change.none(FILLED, "bag(1)", y -> y.bag(1), FULL);
        Change.none(UNEVEN, "hang(0, 4)", y -> y.hang(0, 4), NONE);
        Change.none(UNEVEN, "hang(3, 2)", y -> y.hang(3, 2), BAD);
        Change.none(UNEVEN, "hang(2, 1)", y -> y.hang(2, 1), BAD);
    }

    private static void refusedByLaw() {
        Change.none(UNEVEN, "states(5)", y -> y.states(5), BAD);
        Change.none(UNEVEN, "factor(3, 8)", y -> y.factor(3, 8), NONE);
        Change.none(UNEVEN, "factor(1, 11)", y -> y.factor(1, 11), BAD);
        Change.none(UNEVEN, "pair(1, 3, 0, 8)", y -> y.pair(1, 3, 0, 8), NONE);
        Change.none(UNEVEN, "pair(1, 2, 2, 8)", y -> y.pair(1, 2, 2, 8), BAD);
        Change.none(UNEVEN, "pair(1, 2, 0, 11)", y -> y.pair(1, 2, 0, 11), BAD);
        Change.none(UNEVEN, "forbid(5, 3)", y -> y.forbid(5, 3), NONE);
        Change.none(UNEVEN, "forbid(4, 16)", y -> y.forbid(4, 16), BAD);
    }

    private static void refusedQuestions() {
        for (Supplier<BagTree> net : List.of(BARE, UNSOUND, WIDE)) {
            Change.none(net, "ways()", y -> y.ways(), NO);
            Change.none(net, "best(true)", y -> y.best(true), NO);
            Change.none(net, "bests(false)", y -> y.bests(false), NO);
            Change.none(net, "choice(true, 3)", y -> y.choice(true, 3), STATE);
            Change.none(net, "drawn(0, 3)", y -> y.drawn(0, 3), STATE);
            Change.none(net, "share(3, 1)", y -> y.share(3, 1), NO);
        }
    }

    /** Whatever is asked, each question behind it is answered as if it were the first. */
    private static void onlyAsked() {
        for (Supplier<BagTree> net : List.of(EMPTY, SMALL, UNEVEN, UNSOUND, WAYLESS)) {
            for (Change.Ask ask : Change.onlyAsking(net)) {
                Change.none(net, ask.words, ask.act, ask.act.applyAsLong(net.get()));
            }
        }
        Change.none(FILLED, "below()", y -> y.below(), 4);
        Change.none(FILLED, "fills()", y -> y.fills(), 0);
        Change.none(FILLED, "choice(true, 13)", y -> y.choice(true, 13), Nets.full().choice(true, 13));
        Change.none(FILLED, "drawn(3, 13)", y -> y.drawn(3, 13), Nets.full().drawn(3, 13));
        Change.none(FILLED, "share(0, 1)", y -> y.share(0, 1), Nets.full().share(0, 1));
    }
}
