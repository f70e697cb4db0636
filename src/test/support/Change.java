import java.util.ArrayList;
import java.util.HashMap;
import java.util.List;
import java.util.Map;
import java.util.function.Supplier;
import java.util.function.ToLongFunction;

/**
 * What a call changes: all that can be asked behind it is asked, each question of a new object of its own, so that a
 * question can't hide what another one would show.
 */
final class Change {
    /** A question and its words. */
    static final class Ask {
        final String words;
        final ToLongFunction<BagTree> act;

        Ask(String words, ToLongFunction<BagTree> act) {
            this.words = words;
            this.act = act;
        }
    }

    private static final Map<Supplier<BagTree>, List<Ask>> ASKS = new HashMap<>();
    private static final Map<Supplier<BagTree>, long[]> ANSWERS = new HashMap<>();

    private Change() {
    }

    /** A call has its answer, and no question is answered otherwise behind it. */
    static void none(Supplier<BagTree> maker, String call, ToLongFunction<BagTree> act, long want) {
        only(maker, call, act, want, "");
    }

    /** A call has its answer, and only questions that fit a pattern may be answered otherwise behind it. */
    static void only(Supplier<BagTree> maker, String call, ToLongFunction<BagTree> act, long want, String felt) {
        Trial.due(call, act.applyAsLong(maker.get()), want);
        List<Ask> asks = asksOf(maker);
        long[] before = ANSWERS.get(maker);
        for (int i = 0; i < asks.size(); i++) {
            Ask ask = asks.get(i);
            if (ask.words.matches(felt)) continue;
            BagTree x = maker.get();
            act.applyAsLong(x);
            Trial.due(ask.words + " behind " + call, ask.act.applyAsLong(x), before[i]);
        }
    }

    /** All questions that can be asked of a net, with some that must be refused. */
    static List<Ask> asksOf(Supplier<BagTree> maker) {
        if (ASKS.containsKey(maker)) return ASKS.get(maker);
        List<Ask> all = onlyAsking(maker);
        BagTree x = maker.get();
        addChanging(all, x.count(0), x.count(3), x.count(4));
        long[] answers = new long[all.size()];
        for (int i = 0; i < answers.length; i++) answers[i] = all.get(i).act.applyAsLong(maker.get());
        ASKS.put(maker, all);
        ANSWERS.put(maker, answers);
        return all;
    }

    /** Those of the questions that change nothing themselves. */
    static List<Ask> onlyAsking(Supplier<BagTree> maker) {
        BagTree x = maker.get();
        int knots = x.count(0), bags = x.count(3), q = x.count(4);
        List<Ask> all = new ArrayList<>();
        for (int what = -1; what <= 6; what++) add(all, "count", what, BagTree::count);
        addNet(all, knots);
        addRowAndBags(all, knots, bags);
        addWays(all, knots, q);
        return all;
    }

    private interface OfNumber {
        long answer(BagTree x, int number);
    }

    private interface OfTwo {
        long answer(BagTree x, int a, int b);
    }

    private static void add(List<Ask> all, String name, ToLongFunction<BagTree> act) {
        all.add(new Ask(name + "()", act));
    }

    private static void add(List<Ask> all, String name, int number, OfNumber call) {
        all.add(new Ask(name + "(" + number + ")", x -> call.answer(x, number)));
    }

    private static void add(List<Ask> all, String name, int a, int b, OfTwo call) {
        all.add(new Ask(name + "(" + a + ", " + b + ")", x -> call.answer(x, a, b)));
    }

    private static void addNet(List<Ask> all, int knots) {
        for (int a = 0; a <= knots; a++) {
            add(all, "beside", a, BagTree::beside);
            for (int b = a; b <= knots; b++) add(all, "weight", a, b, BagTree::weight);
        }
        add(all, "below", BagTree::below);
    }

    private static void addRowAndBags(List<Ask> all, int knots, int bags) {
        for (int i = 0; i <= knots; i++) add(all, "row", i, BagTree::row);
        add(all, "fills", BagTree::fills);
        for (int i = 0; i <= bags; i++) {
            for (int what = 0; what < 4; what++) add(all, "bagged", i, what, BagTree::bagged);
        }
        add(all, "sound", BagTree::sound);
        add(all, "width", BagTree::width);
        add(all, "separator", BagTree::separator);
    }

    private static void addWays(List<Ask> all, int knots, int q) {
        add(all, "ways", BagTree::ways);
        for (int i = 0; i < 2; i++) {
            boolean most = i == 0;
            all.add(new Ask("best(" + most + ")", x -> x.best(most)));
            all.add(new Ask("bests(" + most + ")", x -> x.bests(most)));
            for (int k = 0; k <= knots; k++) {
                int knot = k;
                all.add(new Ask("choice(" + most + ", " + k + ")", x -> x.choice(most, knot)));
            }
        }
        for (int k = 0; k <= knots; k++) {
            for (int n = -1; n < 4; n++) add(all, "drawn", n, k, BagTree::drawn);
            for (int s = 0; s <= q; s++) add(all, "share", k, s, BagTree::share);
        }
    }

    /** These tell what something was only when it is changed; each object is asked just once. */
    private static void addChanging(List<Ask> all, int knots, int bags, int q) {
        for (int k = 0; k <= knots; k++) {
            add(all, "put", k, BagTree::put);
            add(all, "weigh", k, 1, BagTree::weigh);
            add(all, "forbid", k, 0, BagTree::forbid);
            for (int other = 0; other < k; other++) {
                add(all, "cut", other, k, BagTree::cut);
                add(all, "edge", other, k, (x, a, b) -> x.edge(a, b, 1));
            }
        }
        for (int i = 0; i <= bags; i++) add(all, "hang", i, bags - 1, BagTree::hang);
        for (int s = 0; s <= q; s++) {
            add(all, "factor", s, 0, BagTree::factor);
            for (int t = 0; t <= q; t++) add(all, "pair", s, t, (x, a, b) -> x.pair(a, b, 1, 0));
        }
        add(all, "knot", 1, BagTree::knot);
        add(all, "bag", 1, BagTree::bag);
        add(all, "states", 1, BagTree::states);
        add(all, "wipe", BagTree::wipe);
        add(all, "clear", BagTree::clear);
        add(all, "make", BagTree::make);
        add(all, "fewest", BagTree::fewest);
        add(all, "least", BagTree::least);
    }
}
