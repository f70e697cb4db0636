import java.util.ArrayList;
import java.util.List;
import java.util.function.Supplier;
import java.util.function.ToLongFunction;

/**
 * What the tests of boundaries share: a count of wrong answers, each told with the sentence that it breaks, and whether
 * a call that is refused changes nothing.
 */
final class Trial {
    static final int NONE = -1, BAD = -2, FULL = -3, STATE = -4;
    static final long NO = Long.MIN_VALUE;
    static final int LOW = Integer.MIN_VALUE, HIGH = Integer.MAX_VALUE;
    private static final int MOST_TOLD = 40;
    private static int wrong = 0;
    private static String sentence = "";

    private Trial() {
    }

    /** The sentence of the document that the next answers are about. */
    static void about(String words) {
        sentence = words;
    }

    static void due(String call, long got, long want) {
        if (got != want) tell(call + " answered " + got + ", due is " + want);
    }

    private static void tell(String fault) {
        wrong++;
        if (wrong <= MOST_TOLD) System.out.println("[" + sentence + "] " + fault);
    }

    static void end() {
        System.out.println(wrong == 0 ? "all answers are as due" : wrong + " answers are not as due");
        if (wrong != 0) System.exit(1);
    }

    /**
     * A call on a new object has its answer and leaves all that can be asked as it is in a twin without the call. Twins
     * are used, for to ask for all of the law is to change it.
     */
    static void changesNothing(Supplier<BagTree> maker, String call, ToLongFunction<BagTree> act, long want) {
        BagTree x = maker.get();
        due(call, act.applyAsLong(x), want);
        same(call, told(x), told(maker.get()));
    }

    /** Two objects tell the same about all that can be asked; both are used up. */
    static void alike(String call, BagTree x, BagTree y) {
        same(call, told(x), told(y));
    }

    private static void same(String call, List<String> got, List<String> want) {
        for (int i = 0; i < Math.max(got.size(), want.size()); i++) {
            String here = i < got.size() ? got.get(i) : "nothing";
            String there = i < want.size() ? want.get(i) : "nothing";
            if (here.equals(there)) continue;
            tell("behind " + call + " there is " + here + ", due is " + there);
            return;
        }
    }

    /** All that an object tells, in some 230 calls at most. */
    private static List<String> told(BagTree x) {
        List<String> all = new ArrayList<>();
        for (int what = 0; what < 6; what++) all.add("count(" + what + ") = " + x.count(what));
        tellNet(x, all);
        tellRowAndBags(x, all);
        tellQuestions(x, all);
        tellLaw(x, all);
        return all;
    }

    private static void tellNet(BagTree x, List<String> all) {
        int knots = x.count(0);
        for (int a = 0; a < knots; a++) {
            all.add("beside(" + a + ") = " + x.beside(a));
            for (int b = a; b < knots; b++) all.add("weight(" + a + ", " + b + ") = " + x.weight(a, b));
        }
        all.add("below() = " + x.below());
    }

    private static void tellRowAndBags(BagTree x, List<String> all) {
        int inRow = x.count(2), bags = x.count(3);
        for (int i = 0; i <= inRow; i++) all.add("row(" + i + ") = " + x.row(i));
        all.add("fills() = " + x.fills());
        for (int i = 0; i < bags; i++) {
            for (int what = 0; what < 3; what++) all.add("bagged(" + i + ", " + what + ") = " + x.bagged(i, what));
        }
        all.add("sound() = " + x.sound());
        all.add("width() = " + x.width());
        all.add("separator() = " + x.separator());
    }

    /** All else that counts here is told one by one, so a few questions show that the answers follow it. */
    private static void tellQuestions(BagTree x, List<String> all) {
        int last = x.count(0) - 1;
        all.add("ways() = " + x.ways());
        all.add("best(true) = " + x.best(true));
        all.add("bests(false) = " + x.bests(false));
        all.add("choice(false, " + last + ") = " + x.choice(false, last));
        all.add("drawn(1, " + last + ") = " + x.drawn(1, last));
        all.add("share(0, 1) = " + x.share(0, 1));
    }

    /** The law tells what it is only when it is told anew. */
    private static void tellLaw(BagTree x, List<String> all) {
        int q = x.count(4), knots = x.count(0);
        for (int s = 0; s < q; s++) {
            all.add("factor(" + s + ") = " + x.factor(s, 0));
            for (int t = s; t < q; t++) all.add("pair(" + t + ", " + s + ") = " + x.pair(t, s, 1, 0));
        }
        for (int k = 0; k < knots; k++) all.add("forbid(" + k + ") = " + x.forbid(k, 0));
    }

    /**
     * Numbers outside low .. high: the nearest ones, the farthest ones, and such as a shift, a byte, a short or a mask
     * of bits would take for one inside.
     */
    static int[] outside(int low, int high) {
        int[] tried = {
            low - 1, high + 1, LOW, LOW + 1, HIGH, HIGH - 1, LOW + low, low + 14, low + 16, low + 31, low + 32, high + 32,
            low - 32, high - 32, low + 64, low - 64, low + 256, high + 256, low - 256, low + 65536, high + 65536,
            low - 65536, ~low, ~high, -high - 1
        };
        int[] found = new int[tried.length];
        int size = 0;
        for (int number : tried) {
            if (number < low || number > high) found[size++] = number;
        }
        return java.util.Arrays.copyOf(found, size);
    }
}
