import java.util.Arrays;

/**
 * Nets that are nearly trees, taken apart into bags that hang in a tree, and questions about the ways in which
 * states can be given to their knots. ../shared/DOC.md says what every call promises.
 */
public final class BagTree {
    public static final int NONE = -1, BAD = -2, FULL = -3, STATE = -4;
    public static final long NO = Long.MIN_VALUE;

    // The tree of an order has a bag for each knot, so one limit serves knots and bags.
    private static final int MOST = 14;
    private static final int HEAVIEST = 1000;
    private static final int STRONGEST = 10;
    private static final int MOST_STATES = 4;
    // Questions refuse a wider tree; it also bounds the tables that answer them.
    private static final int WIDEST = 4;
    // MOST_STATES to the power of WIDEST.
    private static final int TABLE = 256;

    private final Net net = new Net();
    private final KnotRow order = new KnotRow();
    private final Bags bags = new Bags();
    private final Law law = new Law();
    private final Going going = new Going();
    private final Plan plan = new Plan();
    // These two are large and many objects never need them, so the first call that does makes them.
    private Search search;
    private Tally tally;

    public BagTree() {
    }

    // ---- the net

    public int knot(int weight) {
        if (!isWeight(weight)) return BAD;
        if (net.size >= MOST) return FULL;
        order.empty();
        bags.empty();
        return net.addKnot(weight);
    }

    public int edge(int a, int b, int weight) {
        if (!net.has(a) || !net.has(b)) return NONE;
        if (a == b || !isWeight(weight)) return BAD;
        return net.join(a, b, weight) ? 1 : 0;
    }

    public int cut(int a, int b) {
        return net.joined(a, b) ? net.part(a, b) : NONE;
    }

    public int weigh(int knot, int w) {
        if (!net.has(knot)) return NONE;
        if (!isWeight(w)) return BAD;
        int was = net.loads[knot];
        net.loads[knot] = w;
        return was;
    }

    public int weight(int a, int b) {
        if (a == b) return net.has(a) ? net.loads[a] : NONE;
        return net.joined(a, b) ? net.ties[a * MOST + b] : NONE;
    }

    public int beside(int knot) {
        return net.has(knot) ? net.near[knot] : NONE;
    }

    // ---- rows, bags

    public int put(int knot) {
        if (!net.has(knot)) return NONE;
        if (order.holds(knot)) return BAD;
        order.append(knot);
        return order.size;
    }

    public int wipe() {
        int had = order.size;
        order.empty();
        return had;
    }

    public int make() {
        if (net.size == 0 || order.size != net.size) return STATE;
        going.start(net);
        bags.takeApart(order, going);
        return bags.mostKnots() - 1;
    }

    public int fills() {
        if (order.size != net.size) return NONE;
        going.start(net);
        for (int i = 0; i < order.size; i++) going.letGo(order.knots[i]);
        return going.newEnds / 2;
    }

    public int fewest() {
        order.empty();
        going.start(net);
        int widest = -1;
        for (int i = 0; i < net.size; i++) {
            int knot = going.loneliest();
            widest = Math.max(widest, Integer.bitCount(going.near[knot]));
            order.append(knot);
            going.letGo(knot);
        }
        return widest;
    }

    public int least() {
        if (search == null) search = new Search();
        order.empty();
        return search.bestOrder(net, order, lowerBound());
    }

    public int row(int i) {
        return i >= 0 && i < order.size ? order.knots[i] : NONE;
    }

    public int below() {
        return lowerBound();
    }

    public int clear() {
        int had = bags.size;
        bags.empty();
        return had;
    }

    public int bag(int mask) {
        if (mask == 0 || (mask & ~net.everyKnot()) != 0) return BAD;
        if (bags.size >= MOST) return FULL;
        return bags.append(mask);
    }

    public int hang(int bag, int up) {
        if (!bags.has(bag) || !bags.has(up)) return NONE;
        if (bag == bags.size - 1 || up <= bag) return BAD;
        int was = bags.ups[bag];
        bags.ups[bag] = up;
        return was;
    }

    public int bagged(int i, int what) {
        if (!bags.has(i)) return NONE;
        switch (what) {
            case 0: return bags.masks[i];
            case 1: return bags.ups[i];
            case 2: return bags.hangingOn(i);
            default: return NONE;
        }
    }

    public int sound() {
        return bags.size == 0 ? STATE : bags.fault(net);
    }

    public int width() {
        return bags.size == 0 ? NONE : bags.mostKnots() - 1;
    }

    public int separator() {
        if (!isSound()) return STATE;
        for (int i = 0; i < bags.size; i++) {
            if (net.largestPart(net.everyKnot() & ~bags.masks[i]) <= net.size / 2) return i;
        }
        return NONE;
    }

    // ---- the law

    public int states(int n) {
        if (n < 1 || n > MOST_STATES) return BAD;
        int was = law.size;
        law.startAgain(n);
        return was;
    }

    public int factor(int state, int f) {
        if (!law.has(state)) return NONE;
        if (!isFactor(f)) return BAD;
        int was = law.factors[state];
        law.factors[state] = f;
        return was + 100;
    }

    public int pair(int s, int t, int may, int f) {
        if (!law.has(s) || !law.has(t)) return NONE;
        if (may < 0 || may > 1 || !isFactor(f)) return BAD;
        int was = law.barred[s * MOST_STATES + t] ? 0 : law.pairFactors[s * MOST_STATES + t] + 100;
        law.setPair(s, t, may == 0, f);
        return was;
    }

    public int forbid(int knot, int bits) {
        if (!net.has(knot)) return NONE;
        if (bits < 0 || bits > 15) return BAD;
        int was = law.forbidden[knot];
        law.forbidden[knot] = bits;
        return was;
    }

    // ---- questions

    public long ways() {
        if (!canAsk()) return NO;
        Tally asked = freshTally();
        asked.sweep(0);
        return asked.many;
    }

    public long best(boolean most) {
        if (!canAsk()) return NO;
        Tally asked = freshTally();
        asked.sweep(signOf(most));
        return asked.many == 0 ? NO : (long) asked.sum * signOf(most);
    }

    public long bests(boolean most) {
        if (!canAsk()) return NO;
        Tally asked = freshTally();
        asked.sweep(signOf(most));
        return asked.many == 0 ? NO : asked.many;
    }

    public int choice(boolean most, int knot) {
        if (!net.has(knot)) return NONE;
        if (!canAsk()) return STATE;
        return freshTally().stateInWay(signOf(most), 0L, knot);
    }

    public int drawn(long n, int knot) {
        if (n < 0 || !net.has(knot)) return NONE;
        if (!canAsk()) return STATE;
        return freshTally().stateInWay(0, n, knot);
    }

    public long share(int knot, int state) {
        if (!canAsk() || !net.has(knot) || !law.has(state)) return NO;
        Tally asked = freshTally();
        asked.open[knot] &= 1 << state;
        asked.sweep(0);
        return asked.many;
    }

    public int count(int what) {
        switch (what) {
            case 0: return net.size;
            case 1: return net.edges;
            case 2: return order.size;
            case 3: return bags.size;
            case 4: return law.size;
            case 5: return isSound() ? 1 : 0;
            default: return NONE;
        }
    }

    // ---- helpers of the calls

    private static boolean isWeight(int weight) {
        return weight >= 0 && weight <= HEAVIEST;
    }

    private static boolean isFactor(int f) {
        return f >= -STRONGEST && f <= STRONGEST;
    }

    private static int signOf(boolean most) {
        return most ? 1 : -1;
    }

    private static boolean hasBit(int mask, int k) {
        return (mask >> k & 1) != 0;
    }

    private boolean isSound() {
        return bags.size > 0 && bags.fault(net) == 0;
    }

    private boolean canAsk() {
        return isSound() && bags.mostKnots() - 1 <= WIDEST;
    }

    private Tally freshTally() {
        if (tally == null) tally = new Tally(net, law, plan);
        plan.lay(net, bags);
        tally.openAll();
        return tally;
    }

    private int lowerBound() {
        going.start(net);
        int most = -1;
        for (int i = 0; i < net.size; i++) {
            int knot = going.loneliest();
            most = Math.max(most, Integer.bitCount(going.near[knot]));
            going.takeAway(knot);
        }
        return most;
    }

    /** The knots with their weights, and the edges. */
    private static final class Net {
        final int[] loads = new int[MOST];
        final int[] near = new int[MOST];
        // Weights of edges, both ways round; what stands where there is no edge means nothing.
        final int[] ties = new int[MOST * MOST];
        int size;
        int edges;

        boolean has(int knot) {
            return knot >= 0 && knot < size;
        }

        int everyKnot() {
            return (1 << size) - 1;
        }

        boolean joined(int a, int b) {
            return has(a) && has(b) && hasBit(near[a], b);
        }

        int addKnot(int load) {
            loads[size] = load;
            size++;
            return size - 1;
        }

        /** Whether the edge is a new one. */
        boolean join(int a, int b, int tie) {
            boolean isNew = !hasBit(near[a], b);
            if (isNew) edges++;
            near[a] |= 1 << b;
            near[b] |= 1 << a;
            ties[a * MOST + b] = tie;
            ties[b * MOST + a] = tie;
            return isNew;
        }

        /** The weight of the edge that went. */
        int part(int a, int b) {
            near[a] &= ~(1 << b);
            near[b] &= ~(1 << a);
            edges--;
            return ties[a * MOST + b];
        }

        /** The most knots of a set that edges inside the set join. */
        int largestPart(int set) {
            int left = set;
            int most = 0;
            for (int k = 0; k < size; k++) {
                if (!hasBit(left, k)) continue;
                int part = reached(1 << k, set);
                most = Math.max(most, Integer.bitCount(part));
                left &= ~part;
            }
            return most;
        }

        private int reached(int from, int within) {
            int known = from;
            // Each round but the last reaches a knot more.
            for (int round = 0; round < size; round++) {
                int next = known;
                for (int k = 0; k < size; k++) {
                    if (hasBit(known, k)) next |= near[k] & within;
                }
                if (next == known) break;
                known = next;
            }
            return known;
        }
    }

    /** A row of knots, all unlike. */
    private static final class KnotRow {
        final int[] knots = new int[MOST];
        int size;
        private int held;

        boolean holds(int knot) {
            return hasBit(held, knot);
        }

        void append(int knot) {
            if (size >= MOST) return;
            knots[size] = knot;
            size++;
            held |= 1 << knot;
        }

        void empty() {
            size = 0;
            held = 0;
        }

        /** The first place behind i with a knot of a set; without such the place behind i, NONE at the end. */
        int nextPlace(int i, int set) {
            for (int j = i + 1; j < size; j++) {
                if (hasBit(set, knots[j])) return j;
            }
            return i + 1 < size ? i + 1 : NONE;
        }
    }

    /** The knots that are not gone yet, with the neighbours that they have then. */
    private static final class Going {
        final int[] near = new int[MOST];
        int left;
        // A fill has two ends, and each is counted.
        int newEnds;

        void start(Net net) {
            System.arraycopy(net.near, 0, near, 0, MOST);
            left = net.everyKnot();
            newEnds = 0;
        }

        void startAs(Going other) {
            System.arraycopy(other.near, 0, near, 0, MOST);
            left = other.left;
            newEnds = other.newEnds;
        }

        /** A knot goes, and its neighbours are neighbours of one another. */
        void letGo(int knot) {
            int around = near[knot];
            takeAway(knot);
            for (int k = 0; k < MOST; k++) {
                if (!hasBit(around, k)) continue;
                int fresh = around & ~near[k] & ~(1 << k);
                newEnds += Integer.bitCount(fresh);
                near[k] |= fresh;
            }
        }

        /** A knot goes, and nothing comes in its place. */
        void takeAway(int knot) {
            int around = near[knot];
            for (int k = 0; k < MOST; k++) {
                if (hasBit(around, k)) near[k] &= ~(1 << knot);
            }
            near[knot] = 0;
            left &= ~(1 << knot);
        }

        /** The least knot of those with the fewest neighbours; 0 if all are gone. */
        int loneliest() {
            int found = 0;
            int fewestNear = MOST;
            for (int k = 0; k < MOST; k++) {
                if (!hasBit(left, k)) continue;
                int here = Integer.bitCount(near[k]);
                if (here < fewestNear) {
                    found = k;
                    fewestNear = here;
                }
            }
            return found;
        }

        /** A knot that can go first whenever all that are left can go within a width; NONE: none is known. */
        int harmless(int limit) {
            for (int k = 0; k < MOST; k++) {
                if (hasBit(left, k) && Integer.bitCount(near[k]) <= limit && isNearlyJoined(near[k])) return k;
            }
            return NONE;
        }

        /**
         * Whether all knots of a set, but for one at most, are neighbours of one another. A knot with such
         * neighbours goes without harm: it is as if it melted into that one, which makes no net wider.
         */
        private boolean isNearlyJoined(int set) {
            int ends = 0;
            int most = 0;
            for (int k = 0; k < MOST; k++) {
                if (!hasBit(set, k)) continue;
                int lacking = Integer.bitCount(set & ~near[k] & ~(1 << k));
                ends += lacking;
                most = Math.max(most, lacking);
            }
            // All pairs that lack meet in one knot just if that knot has as many of them as there are.
            return ends == 2 * most;
        }
    }

    /** The least width and the best order for it. */
    private static final class Search {
        private final Going rest = new Going();
        private final Going[] levels = new Going[MOST + 1];
        // A bit for each set of knots that can't go, when they alone are left, within the limit.
        private final long[] stuck = new long[1 << (MOST - 6)];
        private int limit;

        Search() {
            for (int i = 0; i < levels.length; i++) levels[i] = new Going();
        }

        /** Puts the best order into an empty row; from is a width that no order is below. */
        int bestOrder(Net net, KnotRow order, int from) {
            int widest = from;
            while (widest < net.size && !netFits(net, widest)) widest++;
            rest.start(net);
            for (int i = 0; i < net.size; i++) {
                int knot = 0;
                while (knot < MOST - 1 && !fitsBehind(rest, knot, 0)) knot++;
                order.append(knot);
                rest.letGo(knot);
            }
            return widest;
        }

        private boolean netFits(Net net, int widest) {
            limit = widest;
            Arrays.fill(stuck, 0L);
            levels[0].start(net);
            return fits(0);
        }

        /** Whether a knot can go next within the limit, and all others behind it. */
        private boolean fitsBehind(Going before, int knot, int depth) {
            if (!hasBit(before.left, knot) || Integer.bitCount(before.near[knot]) > limit) return false;
            levels[depth].startAs(before);
            levels[depth].letGo(knot);
            return fits(depth);
        }

        /** Whether all that is left at a level can go within the limit; at each level a knot more is gone. */
        private boolean fits(int depth) {
            Going here = levels[depth];
            for (int round = 0; round < MOST; round++) {
                int knot = here.harmless(limit);
                if (knot == NONE) break;
                here.letGo(knot);
            }
            if (Integer.bitCount(here.left) <= limit + 1) return true;
            if (depth + 1 >= levels.length || isStuck(here.left)) return false;
            for (int k = 0; k < MOST; k++) {
                if (fitsBehind(here, k, depth + 1)) return true;
            }
            stuck[here.left >> 6] |= 1L << (here.left & 63);
            return false;
        }

        private boolean isStuck(int set) {
            return (stuck[set >> 6] >> (set & 63) & 1L) != 0;
        }
    }

    /** The tree: bags, each but the last one with an up above it. */
    private static final class Bags {
        final int[] masks = new int[MOST];
        final int[] ups = new int[MOST];
        int size;

        boolean has(int bag) {
            return bag >= 0 && bag < size;
        }

        void empty() {
            size = 0;
        }

        int append(int mask) {
            if (size > 0) ups[size - 1] = size;
            masks[size] = mask;
            ups[size] = NONE;
            size++;
            return size - 1;
        }

        /** Becomes the tree of an order of all knots of a net that is about to go. */
        void takeApart(KnotRow order, Going going) {
            size = order.size;
            for (int i = 0; i < size; i++) {
                int knot = order.knots[i];
                int others = going.near[knot];
                masks[i] = others | 1 << knot;
                ups[i] = order.nextPlace(i, others);
                going.letGo(knot);
            }
        }

        int mostKnots() {
            int most = 0;
            for (int i = 0; i < size; i++) most = Math.max(most, Integer.bitCount(masks[i]));
            return most;
        }

        int hangingOn(int bag) {
            int found = 0;
            for (int i = 0; i < size; i++) {
                if (ups[i] == bag) found++;
            }
            return found;
        }

        /** The knots of a bag that its up has not. */
        int endingIn(int bag) {
            int up = ups[bag];
            return has(up) ? masks[bag] & ~masks[up] : masks[bag];
        }

        /** All knots that are in a bag with a knot. */
        int matesOf(int knot) {
            int found = 0;
            for (int i = 0; i < size; i++) {
                if (hasBit(masks[i], knot)) found |= masks[i];
            }
            return found;
        }

        /** What is first found not to be sound, as sound() tells it; 0: nothing. */
        int fault(Net net) {
            int found = looseEdge(net);
            if (found == 0) found = missingKnot(net);
            if (found == 0) found = scatteredKnot(net);
            return found;
        }

        private int looseEdge(Net net) {
            for (int a = 0; a < net.size; a++) {
                for (int b = a + 1; b < net.size; b++) {
                    if (net.joined(a, b) && !holdTogether(1 << a | 1 << b)) return 1 + 16 * a + b;
                }
            }
            return 0;
        }

        private boolean holdTogether(int set) {
            for (int i = 0; i < size; i++) {
                if ((set & ~masks[i]) == 0) return true;
            }
            return false;
        }

        private int missingKnot(Net net) {
            for (int k = 0; k < net.size; k++) {
                if (!holdTogether(1 << k)) return 1001 + k;
            }
            return 0;
        }

        private int scatteredKnot(Net net) {
            int once = 0;
            int again = 0;
            for (int i = 0; i < size; i++) {
                int ending = endingIn(i);
                again |= once & ending;
                once |= ending;
            }
            for (int k = 0; k < net.size; k++) {
                if (hasBit(again, k)) return 2001 + k;
            }
            return 0;
        }
    }

    /** The states with their factors, and what is forbidden. */
    private static final class Law {
        int size = 2;
        final int[] factors = new int[MOST_STATES];
        final int[] pairFactors = new int[MOST_STATES * MOST_STATES];
        final boolean[] barred = new boolean[MOST_STATES * MOST_STATES];
        final int[] forbidden = new int[MOST];

        boolean has(int state) {
            return state >= 0 && state < size;
        }

        void startAgain(int newSize) {
            size = newSize;
            for (int i = 0; i < factors.length; i++) factors[i] = 0;
            for (int i = 0; i < pairFactors.length; i++) {
                pairFactors[i] = 0;
                barred[i] = false;
            }
            for (int i = 0; i < forbidden.length; i++) forbidden[i] = 0;
        }

        void setPair(int s, int t, boolean isBarred, int f) {
            pairFactors[s * MOST_STATES + t] = f;
            pairFactors[t * MOST_STATES + s] = f;
            barred[s * MOST_STATES + t] = isBarred;
            barred[t * MOST_STATES + s] = isBarred;
        }

        int openFor(int knot) {
            return (1 << size) - 1 & ~forbidden[knot];
        }
    }

    /**
     * An order for the knots to go in which each has WIDEST neighbours at most, as a sound tree of that width allows:
     * knots that share a bag count as joined, and from the end of the order on that knot is set which is joined with
     * the most knots behind it; then these all share a bag. Of several the least knot is set, for ways are told from
     * knot 0 on, and a knot whose state becomes known spoils only tables from its own step on.
     */
    private static final class Plan {
        final int[] knots = new int[MOST];
        final int[] others = new int[MOST * WIDEST];
        final int[] otherCount = new int[MOST];
        // The knot of a step and its others, as a mask.
        final int[] scopes = new int[MOST];
        // The step that uses this step's table: that of the first of the others to go; MOST without others.
        final int[] users = new int[MOST];
        final int[] feeders = new int[MOST * MOST];
        final int[] feederCount = new int[MOST];
        int size;
        private final int[] places = new int[MOST];
        private final int[] bagMates = new int[MOST];
        private final Going going = new Going();

        void lay(Net net, Bags bags) {
            size = net.size;
            for (int k = 0; k < size; k++) bagMates[k] = bags.matesOf(k);
            int behind = 0;
            for (int step = size - 1; step >= 0; step--) {
                int knot = mostJoined(behind);
                behind |= 1 << knot;
                knots[step] = knot;
                places[knot] = step;
                feederCount[step] = 0;
            }
            going.start(net);
            for (int step = 0; step < size; step++) takeStep(step);
        }

        private int mostJoined(int behind) {
            int found = 0;
            int most = -1;
            for (int k = 0; k < size; k++) {
                if (hasBit(behind, k)) continue;
                int here = Integer.bitCount(bagMates[k] & behind);
                if (here > most) {
                    found = k;
                    most = here;
                }
            }
            return found;
        }

        private void takeStep(int step) {
            int knot = knots[step];
            int around = going.near[knot];
            int found = 0;
            int user = MOST;
            for (int k = 0; k < size; k++) {
                if (!hasBit(around, k) || found >= WIDEST) continue;
                others[step * WIDEST + found] = k;
                found++;
                user = Math.min(user, places[k]);
            }
            otherCount[step] = found;
            scopes[step] = around | 1 << knot;
            users[step] = user;
            if (user < MOST) {
                feeders[user * MOST + feederCount[user]] = step;
                feederCount[user]++;
            }
            going.letGo(knot);
        }
    }

    /**
     * Finds the best sum and how many ways have it: the knots go by a plan, and each leaves a table with both for
     * all states of the neighbours that it has then. When sums count as nothing, all ways are best ones.
     */
    private static final class Tally {
        // Of each knot the states that the next sweep may give it, as bits.
        final int[] open = new int[MOST];
        // What the last sweep found: the best sum times its sign, and how many ways have it.
        int sum;
        int many;
        private final Net net;
        private final Law law;
        private final Plan plan;
        private final int[] openStates = new int[MOST * MOST_STATES];
        private final int[] openCount = new int[MOST];
        // Of each knot which of its open states is looked at.
        private final int[] picks = new int[MOST];
        private final int[] strides = new int[MOST * WIDEST];
        private final int[] sums = new int[MOST * TABLE];
        private final int[] counts = new int[MOST * TABLE];
        private int sign;
        // Knots whose open states have changed since the last sweep.
        private int changed;
        private int pickedSum;
        // Of the way that is looked for its sum, and how many ways are before it among those that are still open.
        private int aim;
        private long before;

        Tally(Net net, Law law, Plan plan) {
            this.net = net;
            this.law = law;
            this.plan = plan;
        }

        void openAll() {
            for (int k = 0; k < net.size; k++) open[k] = law.openFor(k);
        }

        /** A sign of 1 asks for the greatest sum, -1 for the least, 0 for ways whatever their sums are. */
        void sweep(int newSign) {
            sign = newSign;
            changed = net.everyKnot();
            sweepAgain();
        }

        /** Does the last sweep again, but only where open states that have changed since can be felt. */
        private void sweepAgain() {
            for (int k = 0; k < net.size; k++) {
                if (hasBit(changed, k)) listOpenStates(k);
            }
            sum = 0;
            many = 1;
            int stale = 0;
            for (int step = 0; step < plan.size; step++) {
                if ((plan.scopes[step] & changed) != 0 || hasBit(stale, step)) {
                    fillTable(step);
                    stale |= 1 << plan.users[step];
                }
                if (plan.otherCount[step] > 0) continue;
                sum += sums[step * TABLE];
                many *= counts[step * TABLE];
            }
            changed = 0;
        }

        /** The state of a knot in the n-th of the ways that a sweep with this sign counts. */
        int stateInWay(int newSign, long n, int knot) {
            sweep(newSign);
            if (n < 0 || n >= many) return NONE;
            aim = sum;
            before = n;
            int state = NONE;
            for (int k = 0; k <= knot; k++) state = settle(k);
            return state;
        }

        /** Leaves only that state open for a knot which it has in the way that is looked for. */
        private int settle(int knot) {
            int choices = open[knot];
            for (int s = 0; s < law.size; s++) {
                if (!hasBit(choices, s)) continue;
                open[knot] = 1 << s;
                changed |= 1 << knot;
                // A way that no state before gives is the last one's: that needs no sweep.
                if (choices >> s == 1) return s;
                sweepAgain();
                int here = sum == aim ? many : 0;
                if (before < here) return s;
                before -= here;
            }
            return NONE;
        }

        private void listOpenStates(int knot) {
            int found = 0;
            for (int s = 0; s < law.size; s++) {
                if (!hasBit(open[knot], s)) continue;
                openStates[knot * MOST_STATES + found] = s;
                found++;
            }
            openCount[knot] = found;
        }

        private void fillTable(int step) {
            int entries = 1;
            for (int i = step * WIDEST; i < step * WIDEST + plan.otherCount[step]; i++) {
                int other = plan.others[i];
                strides[i] = entries;
                entries *= openCount[other];
                picks[other] = 0;
            }
            for (int entry = 0; entry < entries; entry++) {
                fillEntry(step, step * TABLE + entry);
                pickNext(step);
            }
        }

        /** Goes to the next states of the others, the first one's the fastest, as the strides do. */
        private void pickNext(int step) {
            for (int i = step * WIDEST; i < step * WIDEST + plan.otherCount[step]; i++) {
                int other = plan.others[i];
                picks[other]++;
                if (picks[other] < openCount[other]) return;
                picks[other] = 0;
            }
        }

        private void fillEntry(int step, int at) {
            int knot = plan.knots[step];
            int bestSum = 0;
            int bestCount = 0;
            for (int pick = 0; pick < openCount[knot]; pick++) {
                picks[knot] = pick;
                int found = addEdges(step, knot) ? addTables(step) : 0;
                if (found == 0) continue;
                if (bestCount == 0 || pickedSum > bestSum) {
                    bestSum = pickedSum;
                    bestCount = found;
                } else if (pickedSum == bestSum) {
                    bestCount += found;
                }
            }
            sums[at] = bestSum;
            counts[at] = bestCount;
        }

        /** Sets the picked sum to that of a knot and its edges to the others; whether these may be. */
        private boolean addEdges(int step, int knot) {
            int state = pickedState(knot);
            int around = net.near[knot];
            int found = net.loads[knot] * law.factors[state];
            for (int i = step * WIDEST; i < step * WIDEST + plan.otherCount[step]; i++) {
                int other = plan.others[i];
                if (!hasBit(around, other)) continue;
                int two = state * MOST_STATES + pickedState(other);
                if (law.barred[two]) return false;
                found += net.ties[knot * MOST + other] * law.pairFactors[two];
            }
            pickedSum = sign * found;
            return true;
        }

        private int pickedState(int knot) {
            return openStates[knot * MOST_STATES + picks[knot]];
        }

        /** Adds what the tables that come to this step tell to the picked sum; how many ways they tell. */
        private int addTables(int step) {
            int found = 1;
            for (int i = 0; i < plan.feederCount[step]; i++) {
                int at = entryOf(plan.feeders[step * MOST + i]);
                if (counts[at] == 0) return 0;
                found *= counts[at];
                pickedSum += sums[at];
            }
            return found;
        }

        private int entryOf(int step) {
            int at = step * TABLE;
            for (int i = step * WIDEST; i < step * WIDEST + plan.otherCount[step]; i++) {
                at += picks[plan.others[i]] * strides[i];
            }
            return at;
        }
    }
}
