/** Promises 13 to 17 and the setting itself: a test for each sentence that names a boundary of what is found. */
public final class SettingBoundaryTest extends ByHand {
    /** Four musts and a stay at their bounds, found by trying: the numbers are about as large as they can become. */
    private static final int[] LARGEST_STAYS = {100000, 0, 0, 0, 0};
    private static final int[][] LARGEST_MUSTS = {{-3, -3, -3, -2, 3}, {-3, 2, 3, -3, 3}, {-3, -3, 3, 3, -2}, {-3, 3, -2, -3, -3}};
    private static final int[] LARGEST_NUMBERS = {999, 1000, 1000, 1000};
    private static final int[] LARGEST_PLACES = {100000, 1, -72540907, 475, 8729003, 95, -20166984, 95, -48460997, 475};
    private static final int[] LARGEST_PIXELS = {100000, -152718, 91884, -212284, -102023};
    private static final int[] LARGEST_OFF = {3, -3, 3, -3, -3};

    public static void main(String[] args) {
        levelsInTurn();
        edgesInTurn();
        tiesGoToTheStay();
        weightsByOne();
        everyChangeIsSeen();
        everyAnswerSeesTheChange();
        atUnknown();
        atOutside();
        atLeastTerms();
        atFarOut();
        atLargestTerms();
        pixelUnknown();
        pixelAtHalves();
        pixelFarOut();
        offUnknown();
        offOutside();
        offAtItsNumber();
        offHidden();
        offFarOut();
        costOutside();
        costOfNoWishes();
        costWeighs();
        whyUnknown();
        whyMetOrHidden();
        whyLevels();
        whyByTryingAlone();
        whyByLessOnly();
        whyLessByASixth();
        whyAllOthers();
        whyChangesNothing();
        end("SettingBoundaryTest");
    }

    // ---- the setting

    /** The least weight of a level is more than all the weight of the levels behind it. */
    private static void levelsInTurn() {
        for (int strong = 0; strong < 3; strong++) {
            for (int weak = strong + 1; weak < 4; weak++) {
                PullAndPush x = withEdges(1000);
                wish(x, AT_MOST, strong, 1, -1, 1);
                for (int w = 1; w < 9; w++) wish(x, EQUAL, weak, 9, 1000, 1);
                dueAt("level " + strong + " against " + weak, x, 0, -1, 1);
            }
        }
        PullAndPush y = withEdges(100000);
        wish(y, AT_MOST, 3, 1, 0, 1);
        dueAt("level 3 against the stay", y, 0, 0, 1);
    }

    private static void edgesInTurn() {
        PullAndPush x = withEdges(0, 0, 0, 0, 0);
        wish(x, EQUAL, 0, 1, 7, 1, 1, 1, 1, 1);
        for (int last = 4; last >= 0; last--) {
            for (int e = 0; e < 5; e++) dueAt("the last that is free gives way", x, e, e == last ? 7 : 0, 1);
            x.factor(last, 1);
            x.wish(EQUAL, 0, 1, 0);
            if (last == 0) due("none is left to give way", x.quarrel(), 0x3f);
        }
        due("all but the last were musts", x.count(2), 5);
    }

    /** Between 0 and 10 all costs of wishes are alike. */
    private static void tiesGoToTheStay() {
        int[] stays = {-100000, 0, -1, 0, 0, 0, 1, 1, 9, 9, 10, 10, 11, 10, 100000, 10};
        PullAndPush x = withEdges(0);
        wish(x, EQUAL, 1, 4, 0, 1);
        wish(x, EQUAL, 1, 4, 10, 1);
        for (int i = 0; i < stays.length; i += 2) {
            x.move(0, stays[i]);
            dueAt("stay " + stays[i], x, 0, stays[i + 1], 1);
            dueCost("alike", x, 1, 40, 1);
        }
    }

    private static void weightsByOne() {
        PullAndPush x = withEdges(4);
        wish(x, EQUAL, 2, 9, 0, 1);
        wish(x, EQUAL, 2, 5, 10, 1);
        wish(x, EQUAL, 2, 4, 10, 1);
        dueAt("9 against 5 and 4", x, 0, 4, 1);
        x.strength(1, 2, 6);
        dueAt("9 against 6 and 4", x, 0, 10, 1);
        x.strength(1, 2, 4);
        dueAt("9 against 4 and 4", x, 0, 0, 1);
    }

    /** Each answer is that of wishes and stays as they are now, whatever was asked before. */
    private static void everyChangeIsSeen() {
        PullAndPush x = withEdges(3);
        dueAt("edge", x, 0, 3, 1);
        wish(x, EQUAL, 2, 1, 5, 1);
        dueAt("wish", x, 0, 5, 1);
        x.side(0, 0, 0, 6, 1, 1);
        dueAt("side", x, 0, -6, 1);
        x.drag(1, 8);
        dueAt("drag", x, 0, 8, 1);
        x.strength(1, 3, 1);
        dueAt("strength", x, 0, 5, 1);
        x.hide(0, true);
        dueAt("hide", x, 0, 8, 1);
        x.hide(0, false);
        dueAt("show", x, 0, 5, 1);
        x.take(0);
        dueAt("take", x, 0, 8, 1);
        x.take(1);
        dueAt("take", x, 0, 3, 1);
        x.move(0, 4);
        dueAt("move", x, 0, 4, 1);
        wish(x, AT_LEAST, 0, 1, 9, 2);
        dueAt("must", x, 0, 9, 2);
        x.settle();
        dueAt("settle", x, 0, 5, 1);
    }

    /** Each call that answers from the setting is once the first one behind a change. */
    private static void everyAnswerSeesTheChange() {
        PullAndPush x = withEdges(0);
        wish(x, EQUAL, 2, 3, 0, 1);
        wish(x, EQUAL, 1, 1, 0, 2);
        for (int half : new int[] {1, 5, 8, -3, 0, 7}) {
            int lower = half % 2 == 0 ? 1 : 2;
            int others = half == 0 ? 0 : 1;
            setAnew(x, half);
            due("at", x.at(0, 0), half * lower / 2);
            setAnew(x, half);
            due("pixel", x.pixel(0), Math.floorDiv(half + 1, 2));
            setAnew(x, half);
            due("off", x.off(0, 0), Math.abs(half * lower / 2));
            setAnew(x, half);
            due("cost", x.cost(2, 0), Math.abs(3 * half * lower / 2));
            setAnew(x, half);
            due("count", x.count(3), others);
            setAnew(x, half);
            due("why", x.why(0), 2 * others);
        }
    }

    /** The setting is asked for with the edge elsewhere, where wish 0 is met just when it will not be; then the edge is dragged. */
    private static void setAnew(PullAndPush x, int half) {
        x.drag(1, half == 0 ? 999 : 0);
        x.at(0, 0);
        x.drag(1, half);
    }

    // ---- 13: at

    private static void atUnknown() {
        PullAndPush x = withEdges(1, 2);
        for (int e : NO_EDGE) dueAll("13 at(" + e + ", ..)", UNKNOWN, x.at(e, 0), x.at(e, 1), x.at(e, 2), x.at(e, -1));
        dueAll("13 not made yet", UNKNOWN, x.at(2, 0), x.at(2, 1), x.at(2, 2));
        dueAt("13 the last one", x, 1, 2, 1);
    }

    private static void atOutside() {
        PullAndPush x = withEdges(1, 2);
        for (int e = 0; e < 2; e++) dueAll("13 outside", OUTSIDE, x.at(e, -1), x.at(e, 2), x.at(e, LEAST), x.at(e, MOST));
    }

    private static void atLeastTerms() {
        PullAndPush x = withEdges(1);
        int[] thirds = {0, 0, 1, 1, 1, 3, 2, 2, 3, 3, 1, 1, 6, 2, 1, 1000, 1000, 3, -1, -1, 3, -3, -1, 1, -6, -2, 1, -1000, -1000, 3};
        wish(x, EQUAL, 0, 1, 0, 3);
        for (int i = 0; i < thirds.length; i += 3) {
            x.drag(0, thirds[i]);
            dueAt("13 " + thirds[i] + "/3", x, 0, thirds[i + 1], thirds[i + 2]);
        }
        PullAndPush y = withEdges(1);
        wish(y, EQUAL, 0, 1, 4, -2);
        dueAt("13 the lower number is above 0", y, 0, -2, 1);
        y.drag(0, 3);
        dueAt("13 the lower number is above 0", y, 0, -3, 2);
        PullAndPush z = withEdges(0, 0);
        wish(z, EQUAL, 0, 1, 2, 3, 1);
        wish(z, EQUAL, 0, 1, 2, 1, 3);
        dueAt("13 4/8", z, 0, 1, 2);
        dueAt("13 4/8", z, 1, 1, 2);
    }

    /** Each edge is three times all before it and 1000 more: 4 times what all were, and so on. */
    private static PullAndPush farOut(int stay) {
        PullAndPush x = withEdges(stay, 0, 0, 0, 0);
        wish(x, EQUAL, 0, 1, 1000, -3, 1);
        wish(x, EQUAL, 0, 1, 1000, -3, -3, 1);
        wish(x, EQUAL, 0, 1, 1000, -3, -3, -3, 1);
        wish(x, EQUAL, 0, 1, 1000, -3, -3, -3, -3, 1);
        return x;
    }

    private static void atFarOut() {
        PullAndPush x = farOut(100000);
        int[] places = {100000, 301000, 1204000, 4816000, 19264000};
        for (int e = 0; e < 5; e++) dueAt("13 far above", x, e, places[e], 1);
        x.move(0, -100000);
        int[] below = {-100000, -299000, -1196000, -4784000, -19136000};
        for (int e = 0; e < 5; e++) dueAt("13 far below", x, e, below[e], 1);
    }

    private static PullAndPush largestTerms() {
        PullAndPush x = withEdges(LARGEST_STAYS);
        for (int i = 0; i < LARGEST_MUSTS.length; i++) {
            due("a must", wish(x, EQUAL, 0, 1, LARGEST_NUMBERS[i], LARGEST_MUSTS[i]), i);
        }
        return x;
    }

    private static void atLargestTerms() {
        PullAndPush x = largestTerms();
        for (int e = 0; e < 5; e++) dueAt("13 the largest", x, e, LARGEST_PLACES[2 * e], LARGEST_PLACES[2 * e + 1]);
        for (int e = 0; e < 5; e++) due("14 the largest", x.pixel(e), LARGEST_PIXELS[e]);
    }

    // ---- 14: pixel

    private static void pixelUnknown() {
        PullAndPush x = withEdges(1, 2);
        for (int e : NO_EDGE) due("14 pixel(" + e + ")", x.pixel(e), UNKNOWN);
        due("14 not made yet", x.pixel(2), UNKNOWN);
        due("14 no edges", new PullAndPush().pixel(0), UNKNOWN);
        due("14 the last one", x.pixel(1), 2);
    }

    private static void pixelAtHalves() {
        PullAndPush x = withEdges(0);
        wish(x, EQUAL, 0, 1, 0, 2);
        int[] halves = {-5, -2, -4, -2, -3, -1, -2, -1, -1, 0, 0, 0, 1, 1, 2, 1, 3, 2, 999, 500, -999, -499, 1000, 500, -1000, -500};
        for (int i = 0; i < halves.length; i += 2) {
            x.drag(0, halves[i]);
            due("14 pixel of " + halves[i] + "/2", x.pixel(0), halves[i + 1]);
        }
        PullAndPush y = withEdges(0, 0);
        wish(y, EQUAL, 0, 1, 0, 3);
        wish(y, EQUAL, 0, 1, 0, -1, 3);
        int[] ninths = {4, 0, 5, 1, -4, 0, -5, -1, 13, 1, 14, 2, -13, -1, -14, -2};
        for (int i = 0; i < ninths.length; i += 2) {
            y.drag(0, ninths[i]);
            dueAt("14 by ninths", y, 1, ninths[i], 9);
            due("14 pixel of " + ninths[i] + "/9", y.pixel(1), ninths[i + 1]);
        }
    }

    /** A pixel may lie where no stay may. */
    private static void pixelFarOut() {
        PullAndPush x = farOut(100000);
        due("14 far above", x.pixel(4), 19264000);
        x.move(0, -100000);
        due("14 far below", x.pixel(4), -19136000);
    }

    // ---- 15: off

    private static void offUnknown() {
        PullAndPush x = withEdges(0);
        addIdleWishes(x, 1);
        for (int w : NO_WISH) dueAll("15 off(" + w + ", ..)", UNKNOWN, x.off(w, 0), x.off(w, 1), x.off(w, 2), x.off(w, -1));
        dueAll("15 not made yet", UNKNOWN, x.off(1, 0), x.off(1, 2));
        x.take(0);
        dueAll("15 taken", UNKNOWN, x.off(0, 0), x.off(0, 2));
    }

    private static void offOutside() {
        PullAndPush x = withEdges(0);
        addIdleWishes(x, 1);
        dueAll("15 outside", OUTSIDE, x.off(0, -1), x.off(0, 2), x.off(0, LEAST), x.off(0, MOST));
        x.hide(0, true);
        dueAll("15 outside, hidden", OUTSIDE, x.off(0, -1), x.off(0, 2));
    }

    /** A third below, at and above the number, for each relation. */
    private static void offAtItsNumber() {
        PullAndPush x = withEdges(0);
        wish(x, EQUAL, 0, 1, 0, 3);
        for (int relation = 0; relation < 3; relation++) wish(x, relation, 1, 1, 2, 1);
        x.drag(0, 5);
        dueOff("15 equal, below", x, 1, 1, 3);
        dueOff("15 at most, below", x, 2, 0, 1);
        dueOff("15 at least, below", x, 3, 1, 3);
        due("15 two are not met", x.count(3), 2);
        x.drag(0, 6);
        for (int w = 0; w < 4; w++) dueOff("15 at its number", x, w, 0, 1);
        due("15 all are met", x.count(3), 0);
        x.drag(0, 7);
        dueOff("15 equal, above", x, 1, 1, 3);
        dueOff("15 at most, above", x, 2, 1, 3);
        dueOff("15 at least, above", x, 3, 0, 1);
        due("15 two are not met", x.count(3), 2);
    }

    private static void offHidden() {
        PullAndPush x = withEdges(4);
        wish(x, EQUAL, 0, 9, 1, 2);
        x.hide(0, true);
        dueOff("15 a hidden must, weight or not", x, 0, 7, 1);
        x.move(0, 0);
        dueOff("15 a hidden must, below", x, 0, 1, 1);
        x.hide(0, false);
        dueOff("15 shown", x, 0, 0, 1);
    }

    private static void offFarOut() {
        PullAndPush x = farOut(100000);
        due("15 a wish that is hidden", wish(x, AT_MOST, 3, 1, -1000, 3, 3, 3, 3, 3), 4);
        x.hide(4, true);
        dueOff("15 far out", x, 4, 77056000, 1);
        PullAndPush y = largestTerms();
        due("15 a wish that is hidden", wish(y, EQUAL, 3, 9, -1000, LARGEST_OFF), 4);
        y.hide(4, true);
        dueOff("15 the largest", y, 4, 939420517, 475);
    }

    // ---- 16: cost

    private static void costOutside() {
        PullAndPush x = withEdges(0);
        for (int what = 0; what < 2; what++) dueAll("16 level", OUTSIDE, x.cost(0, what), x.cost(4, what), x.cost(-1, what), x.cost(LEAST, what), x.cost(MOST, what));
        for (int level = 1; level < 4; level++) dueAll("16 what", OUTSIDE, x.cost(level, -1), x.cost(level, 2), x.cost(level, LEAST), x.cost(level, MOST));
        due("16 both", x.cost(0, 2), OUTSIDE);
    }

    private static void costOfNoWishes() {
        PullAndPush x = withEdges(5);
        for (int level = 1; level < 4; level++) dueCost("16 none", x, level, 0, 1);
        wish(x, EQUAL, 0, 9, 1, 2);
        for (int level = 1; level < 4; level++) dueCost("16 musts and stays have none", x, level, 0, 1);
        for (int level = 1; level < 4; level++) wish(x, AT_MOST, level, 9, 1, 2);
        for (int level = 1; level < 4; level++) dueCost("16 all are met", x, level, 0, 1);
    }

    /** The edge is 1/3, so wishes of 3, 2, 1, 4 are off by 8/3, 5/3, 2/3, 11/3. */
    private static void costWeighs() {
        PullAndPush x = withEdges(5);
        wish(x, EQUAL, 0, 1, 1, 3);
        wish(x, EQUAL, 1, 1, 3, 1);
        wish(x, EQUAL, 2, 9, 2, 1);
        wish(x, EQUAL, 3, 1, 1, 1);
        wish(x, AT_LEAST, 3, 2, 4, 1);
        dueCost("16 least weight", x, 1, 8, 3);
        dueCost("16 most weight, in least terms", x, 2, 15, 1);
        dueCost("16 two wishes, in least terms", x, 3, 8, 1);
        x.hide(3, true);
        dueCost("16 a hidden one does not count", x, 3, 22, 3);
        x.take(4);
        dueCost("16 none is left", x, 3, 0, 1);
        x.hide(3, false);
        dueCost("16 it counts again", x, 3, 2, 3);
    }

    // ---- 17: why

    private static void whyUnknown() {
        PullAndPush x = withEdges(0);
        wish(x, EQUAL, 0, 1, 1, 1);
        wish(x, EQUAL, 1, 1, 2, 1);
        for (int w : NO_WISH) due("17 why(" + w + ")", x.why(w), UNKNOWN);
        due("17 not made yet", x.why(2), UNKNOWN);
        due("17 the last one", x.why(1), 1);
        x.take(1);
        due("17 taken", x.why(1), UNKNOWN);
    }

    private static void whyMetOrHidden() {
        PullAndPush x = withEdges(0);
        wish(x, EQUAL, 0, 1, 2, 1);
        wish(x, AT_LEAST, 1, 1, 2, 1);
        wish(x, AT_LEAST, 1, 1, 3, 1);
        due("17 a must", x.why(0), 0);
        due("17 met at the border", x.why(1), 0);
        due("17 not met", x.why(2), 1);
        x.hide(2, true);
        due("17 hidden and not met", x.why(2), 0);
        dueOff("17 hidden and not met", x, 2, 1, 1);
        x.hide(2, false);
        x.hide(0, true);
        due("17 met, as what stood against it is hidden", x.why(2), 0);
        due("17 a hidden must", x.why(0), 0);
    }

    /** Edge 0 is held by one wish, the other one pulls at it: told just where its level is not a higher number. */
    private static void whyLevels() {
        for (int own = 1; own < 4; own++) {
            for (int other = 0; other <= own; other++) {
                PullAndPush x = withEdges(0);
                wish(x, EQUAL, other, 9, 5, 1);
                wish(x, EQUAL, own, 1, 6, 1);
                due("17 level " + own + ", held by " + other, x.why(1), 1);
                due("17 the one that holds is met", x.why(0), 0);
            }
            for (int weaker = own + 1; weaker < 4; weaker++) {
                PullAndPush x = withEdges(0);
                wish(x, EQUAL, own, 1, 0, 1);
                wish(x, EQUAL, own, 1, 10, 1);
                wish(x, EQUAL, weaker, 1, 4, 1);
                dueAt("17 the weaker one chooses", x, 0, 4, 1);
                due("17 but is not told", x.why(1), 1);
                due("17 but is not told", x.why(0), 2);
            }
        }
    }

    private static void whyByTryingAlone() {
        PullAndPush x = withEdges(0);
        wish(x, AT_LEAST, 1, 1, 9, 1);
        wish(x, AT_MOST, 0, 1, 5, 1);
        wish(x, AT_MOST, 0, 1, 5, 1);
        due("17 neither of two alike", x.why(0), 0);
        x.drag(2, 6);
        due("17 the one that is nearer", x.why(0), 1 << 1);
        x.drag(1, 7);
        due("17 the other one", x.why(0), 1 << 2);
        x.hide(1, true);
        due("17 the only one", x.why(0), 1 << 2);
        x.hide(1, false);
        x.hide(2, true);
        due("17 not one that is hidden", x.why(0), 1 << 1);
    }

    private static void whyByLessOnly() {
        PullAndPush x = withEdges(0, 0);
        wish(x, EQUAL, 0, 1, 5, 1);
        wish(x, EQUAL, 1, 1, 9, 1);
        wish(x, EQUAL, 0, 1, 5, 0, 1);
        due("17 one that has nothing to do with it", x.why(1), 1);
        PullAndPush y = withEdges(-9);
        wish(y, AT_MOST, 1, 9, 5, 1);
        wish(y, AT_LEAST, 1, 1, 9, 1);
        wish(y, AT_LEAST, 1, 1, 4, 1);
        dueAt("17 between", y, 0, 5, 1);
        due("17 off by as much without 2", y.why(1), 1);
    }

    private static void whyLessByASixth() {
        PullAndPush x = withEdges(0);
        wish(x, AT_MOST, 0, 1, 1, 3);
        wish(x, AT_LEAST, 1, 1, 1, 1);
        wish(x, AT_MOST, 0, 1, 1, 2);
        dueOff("17 off by 2/3, without 0 by 1/2", x, 1, 2, 3);
        due("17 less by a sixth", x.why(1), 1);
    }

    private static void whyAllOthers() {
        for (int one = 0; one < 9; one += 8) {
            PullAndPush x = withEdges(0);
            for (int w = 0; w < 9; w++) wish(x, w == one ? AT_LEAST : AT_MOST, 2, w == one ? 8 : 1, w == one ? 100 : 0, 1);
            dueOff("17 eight against it", x, one, 100, 1);
            due("17 each of the eight", x.why(one), 0x1ff & ~(1 << one));
            x.strength(one, 2, 7);
            due("17 too weak by one: none alone", x.why(one), 0);
        }
    }

    private static void whyChangesNothing() {
        PullAndPush x = withEdges(0);
        wish(x, EQUAL, 0, 1, 5, 1);
        wish(x, EQUAL, 1, 1, 9, 1);
        wish(x, EQUAL, 0, 1, 5, 1);
        due("17 clash", wish(x, EQUAL, 0, 1, 4, 1), CLASH);
        x.factor(0, 2);
        dueAll("17 asked twice", 0, x.why(1), x.why(1));
        due("17 quarrel", x.quarrel(), 1 << 2 | 1 << 3);
        dueAt("17 at", x, 0, 5, 1);
        dueOff("17 off", x, 1, 4, 1);
        dueCounts("17 counts", x, 1, 3, 2, 1);
        dueFactors("17 factors", x, 2, 0, 0, 0, 0);
    }
}
