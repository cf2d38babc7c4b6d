/** What the tests with answers found by hand share. */
abstract class ByHand {
    static final int UNKNOWN = PullAndPush.UNKNOWN, OUTSIDE = PullAndPush.OUTSIDE, STATE = PullAndPush.STATE, FULL = PullAndPush.FULL, CLASH = PullAndPush.CLASH;
    static final int LEAST = Integer.MIN_VALUE, MOST = Integer.MAX_VALUE;
    static final int EQUAL = 0, AT_MOST = 1, AT_LEAST = 2;

    /** Numbers that no edge and no wish ever has. */
    static final int[] NO_EDGE = {-1, 5, 6, LEAST, MOST};
    static final int[] NO_WISH = {-1, 9, 10, LEAST, MOST};

    private static int wrong = 0;
    private static int checks = 0;

    static void due(String what, long got, long want) {
        checks++;
        if (got != want) {
            wrong++;
            System.out.println(what + " answered " + got + ", due is " + want);
        }
    }

    /** Several answers to the same question, one after the other. */
    static void dueAll(String what, long want, long... got) {
        for (int i = 0; i < got.length; i++) due(what + " [" + i + "]", got[i], want);
    }

    static void dueAt(String what, PullAndPush x, int e, int upper, int lower) {
        due(what + ": at(" + e + ", 0)", x.at(e, 0), upper);
        due(what + ": at(" + e + ", 1)", x.at(e, 1), lower);
    }

    static void dueOff(String what, PullAndPush x, int w, long upper, long lower) {
        due(what + ": off(" + w + ", 0)", x.off(w, 0), upper);
        due(what + ": off(" + w + ", 1)", x.off(w, 1), lower);
    }

    static void dueCost(String what, PullAndPush x, int level, long upper, long lower) {
        due(what + ": cost(" + level + ", 0)", x.cost(level, 0), upper);
        due(what + ": cost(" + level + ", 1)", x.cost(level, 1), lower);
    }

    /** What is told of a wish, in order; what is left out is not looked at. */
    static void dueTold(String what, PullAndPush x, int w, int... want) {
        for (int i = 0; i < want.length; i++) due(what + ": told(" + w + ", " + i + ")", x.told(w, i), want[i]);
    }

    static void dueCounts(String what, PullAndPush x, int... want) {
        for (int i = 0; i < want.length; i++) due(what + ": count(" + i + ")", x.count(i), want[i]);
    }

    /** The factors told for the next wish, which are left as they are. */
    static void dueFactors(String what, PullAndPush x, int... want) {
        for (int e = 0; e < want.length; e++) {
            int factor = x.factor(e, 0);
            x.factor(e, factor);
            due(what + ": factor of " + e, factor, want[e]);
        }
    }

    static PullAndPush withEdges(int... stays) {
        PullAndPush x = new PullAndPush();
        for (int e = 0; e < stays.length; e++) due("edge " + e, x.edge(stays[e]), e);
        return x;
    }

    /** A wish of the factors given for edge 0, 1, .. */
    static int wish(PullAndPush x, int relation, int level, int weight, int number, int... factors) {
        for (int e = 0; e < factors.length; e++) x.factor(e, factors[e]);
        return x.wish(relation, level, weight, number);
    }

    /** So many wishes that all are met by edge 0 anywhere within -300 .. 300. */
    static void addIdleWishes(PullAndPush x, int many) {
        for (int i = 0; i < many; i++) {
            if (wish(x, AT_MOST, 3, 1, 900, 3) < 0) due("an idle wish", i, many);
        }
    }

    /** To be called last: tells how it went and fails where an answer was wrong. */
    static void end(String test) {
        System.out.println(test + ": " + checks + " answers, " + wrong + " wrong");
        if (wrong != 0) System.exit(1);
    }
}
