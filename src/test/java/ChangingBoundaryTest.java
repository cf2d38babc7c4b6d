/** Promises 6 to 12: a test for each sentence that names a boundary of how wishes are changed, told and counted. */
public final class ChangingBoundaryTest extends ByHand {
    public static void main(String[] args) {
        takeUnknown();
        takeToTheLast();
        takeLeavesTheOthers();
        takeAHiddenOne();
        hideUnknown();
        hideTwice();
        hiddenCountsForNothing();
        hideClash();
        showAtTheBorder();
        hideNeverClashesBelowMusts();
        dragBounds();
        dragUnknown();
        dragToWhereItIs();
        dragClash();
        dragHidden();
        strengthBounds();
        strengthUnknown();
        strengthClash();
        strengthOfAMust();
        strengthHidden();
        toldBounds();
        toldUnknown();
        toldOfEdgesThatAreNotThere();
        countBounds();
        countEmptyAndFull();
        countMustsThatAreNotHidden();
        countNotMet();
        quarrelBeforeAClash();
        quarrelByEachCall();
        quarrelInOrder();
        quarrelOfTheLatest();
        quarrelOfSix();
        quarrelWithTheNumberItWouldHave();
        end("ChangingBoundaryTest");
    }

    // ---- 6: take

    private static void takeUnknown() {
        PullAndPush x = withEdges(0);
        due("6 none there", x.take(0), UNKNOWN);
        addIdleWishes(x, 2);
        for (int w : NO_WISH) due("6 take(" + w + ")", x.take(w), UNKNOWN);
        due("6 not made yet", x.take(2), UNKNOWN);
        due("6 taken", x.take(0), 1);
        due("6 taken already", x.take(0), UNKNOWN);
        due("6 one left", x.count(1), 1);
    }

    private static void takeToTheLast() {
        PullAndPush x = withEdges(0);
        addIdleWishes(x, 9);
        for (int w = 8; w >= 0; w--) due("6 take(" + w + ")", x.take(w), w);
        dueCounts("6 none left", x, 1, 0, 0, 0);
        due("6 from 0 on again", wish(x, EQUAL, 1, 1, 5, 1), 0);
    }

    private static void takeLeavesTheOthers() {
        PullAndPush x = withEdges(0, 0);
        wish(x, EQUAL, 0, 1, 5, 1);
        wish(x, EQUAL, 0, 2, 6, 0, 1);
        due("6 clash", wish(x, EQUAL, 0, 1, 7, 1), CLASH);
        x.factor(0, 3);
        due("6 one left", x.take(0), 1);
        dueTold("6 the other keeps its number", x, 1, 0, 0, 2, 6, 0, 0, 1);
        due("6 quarrel stays", x.quarrel(), 1 | 1 << 2);
        dueFactors("6 factors stay", x, 3, 0, 0, 0, 0);
        dueAt("6 free again", x, 0, 0, 1);
        dueAt("6 held still", x, 1, 6, 1);
        due("6 no clash without it", wish(x, EQUAL, 0, 1, 7, 1), 0);
    }

    private static void takeAHiddenOne() {
        PullAndPush x = withEdges(0);
        wish(x, EQUAL, 0, 1, 5, 1);
        x.hide(0, true);
        due("6 a hidden one", x.take(0), 0);
        due("6 not there", x.hide(0, false), UNKNOWN);
        due("6 in its place", wish(x, EQUAL, 0, 1, 6, 1), 0);
        due("6 which is not hidden", x.told(0, 4), 0);
        dueAt("6 and counts", x, 0, 6, 1);
    }

    // ---- 7: hide

    private static void hideUnknown() {
        PullAndPush x = withEdges(0);
        addIdleWishes(x, 1);
        for (int w : NO_WISH) dueAll("7 hide(" + w + ")", UNKNOWN, x.hide(w, true), x.hide(w, false));
        dueAll("7 not made yet", UNKNOWN, x.hide(1, true), x.hide(1, false));
        x.take(0);
        dueAll("7 taken", UNKNOWN, x.hide(0, true), x.hide(0, false));
    }

    private static void hideTwice() {
        PullAndPush x = withEdges(0);
        wish(x, EQUAL, 0, 1, 5, 1);
        due("7 shown and shown", x.hide(0, false), 0);
        due("7 hidden", x.hide(0, true), 0);
        due("7 hidden and hidden", x.hide(0, true), 1);
        dueAt("7 hidden", x, 0, 0, 1);
        due("7 shown", x.hide(0, false), 1);
        due("7 shown and shown", x.hide(0, false), 0);
        dueAt("7 shown", x, 0, 5, 1);
    }

    private static void hiddenCountsForNothing() {
        PullAndPush x = withEdges(0);
        for (int level = 0; level < 4; level++) wish(x, EQUAL, level, 9, 5 + level, 1);
        dueCounts("7 all shown", x, 1, 4, 1, 3);
        for (int w = 0; w < 4; w++) {
            dueAt("7 the strongest that is shown", x, 0, 5 + w, 1);
            x.hide(w, true);
        }
        dueAt("7 all hidden", x, 0, 0, 1);
        dueCounts("7 all hidden", x, 1, 4, 0, 0);
        for (int level = 1; level < 4; level++) dueCost("7 all hidden", x, level, 0, 1);
    }

    private static void hideClash() {
        PullAndPush x = withEdges(0);
        wish(x, AT_LEAST, 0, 1, 5, 1);
        x.hide(0, true);
        wish(x, AT_MOST, 0, 1, 4, 1);
        due("7 clash", x.hide(0, false), CLASH);
        due("7 quarrel", x.quarrel(), 3);
        due("7 hidden still", x.told(0, 4), 1);
        due("7 clash again", x.hide(0, false), CLASH);
        due("7 to hide never clashes", x.hide(0, true), 1);
        due("7 to hide never clashes", x.hide(1, true), 0);
        due("7 no clash without the other", x.hide(0, false), 1);
        due("7 but with it", x.hide(1, false), CLASH);
        dueAt("7 the one that is shown", x, 0, 5, 1);
    }

    private static void showAtTheBorder() {
        PullAndPush x = withEdges(0);
        wish(x, AT_LEAST, 0, 1, 5, 2);
        x.hide(0, true);
        wish(x, AT_MOST, 0, 1, -5, -2);
        wish(x, AT_MOST, 0, 1, 5, 2);
        due("7 all meet at 5 halves", x.hide(0, false), 1);
        dueAt("7 all meet", x, 0, 5, 2);
        due("7 no quarrel", x.quarrel(), 0);
    }

    private static void hideNeverClashesBelowMusts() {
        PullAndPush x = withEdges(0);
        wish(x, EQUAL, 0, 1, 5, 1);
        for (int level = 1; level < 4; level++) {
            wish(x, EQUAL, level, 1, 6, 1);
            dueAll("7 hide a weaker wish", 0, x.hide(level, true));
            dueAll("7 show a weaker wish", 1, x.hide(level, false));
        }
        due("7 no quarrel", x.quarrel(), 0);
    }

    // ---- 8: drag

    private static void dragBounds() {
        PullAndPush x = withEdges(0);
        for (int level = 0; level < 4; level++) {
            due("8 wish", wish(x, EQUAL, level, 1, 0, 1), 0);
            due("8 greatest", x.drag(0, 1000), 0);
            dueAt("8 greatest", x, 0, 1000, 1);
            due("8 least", x.drag(0, -1000), 1000);
            dueAt("8 least", x, 0, -1000, 1);
            dueAll("8 outside", OUTSIDE, x.drag(0, 1001), x.drag(0, -1001), x.drag(0, LEAST), x.drag(0, MOST));
            due("8 as it was", x.told(0, 3), -1000);
            dueAt("8 as it was", x, 0, -1000, 1);
            x.take(0);
        }
    }

    private static void dragUnknown() {
        PullAndPush x = withEdges(0);
        addIdleWishes(x, 1);
        for (int w : NO_WISH) dueAll("8 drag(" + w + ", ..)", UNKNOWN, x.drag(w, 0), x.drag(w, 1001));
        dueAll("8 not made yet", UNKNOWN, x.drag(1, 0), x.drag(1, -1001));
        x.take(0);
        dueAll("8 taken", UNKNOWN, x.drag(0, 0), x.drag(0, 1001));
    }

    private static void dragToWhereItIs() {
        PullAndPush x = withEdges(0);
        wish(x, EQUAL, 0, 1, 7, 2);
        due("8 to where it is", x.drag(0, 7), 7);
        dueAt("8 as it was", x, 0, 7, 2);
    }

    private static void dragClash() {
        PullAndPush x = withEdges(0);
        wish(x, AT_LEAST, 0, 1, 0, 2);
        wish(x, AT_MOST, 0, 1, 10, 3);
        due("8 to the border", x.drag(0, 6), 0);
        due("8 clash by a sixth", x.drag(0, 7), CLASH);
        due("8 quarrel", x.quarrel(), 3);
        due("8 as it was", x.told(0, 3), 6);
        dueAt("8 as it was", x, 0, 3, 1);
        due("8 outside ahead of clash", x.drag(0, 1001), OUTSIDE);
        due("8 the other one too", x.drag(1, 8), CLASH);
        due("8 just so", x.drag(1, 9), 10);
        dueAt("8 one point is left", x, 0, 3, 1);
        due("8 a weaker wish never clashes", wish(x, EQUAL, 1, 1, 3, 1), 2);
        due("8 a weaker wish never clashes", x.drag(2, -1000), 3);
    }

    private static void dragHidden() {
        PullAndPush x = withEdges(0);
        wish(x, EQUAL, 0, 1, 5, 1);
        wish(x, EQUAL, 0, 1, 5, 1);
        x.hide(1, true);
        due("8 a hidden must does not clash", x.drag(1, 6), 5);
        due("8 nor is it hidden less", x.told(1, 4), 1);
        due("8 but when shown", x.hide(1, false), CLASH);
        due("8 and back", x.drag(1, 5), 6);
        due("8 no more", x.hide(1, false), 1);
    }

    // ---- 9: strength

    private static void strengthBounds() {
        PullAndPush x = withEdges(0);
        wish(x, EQUAL, 1, 5, 3, 1);
        for (int level = 0; level < 4; level++) {
            for (int weight = 1; weight < 10; weight += 8) {
                due("9 strength", x.strength(0, level, weight), 1);
                dueTold("9 strength", x, 0, EQUAL, level, weight, 3, 0, 1);
            }
        }
        due("9 as it is", x.strength(0, 3, 9), 1);
        dueAll("9 level", OUTSIDE, x.strength(0, -1, 1), x.strength(0, 4, 1), x.strength(0, LEAST, 1), x.strength(0, MOST, 1));
        dueAll("9 weight", OUTSIDE, x.strength(0, 1, 0), x.strength(0, 1, 10), x.strength(0, 1, -1), x.strength(0, 1, LEAST), x.strength(0, 1, MOST));
        dueAll("9 both", OUTSIDE, x.strength(0, 4, 10), x.strength(0, -1, 0));
        due("9 a must's weight has bounds too", x.strength(0, 0, 10), OUTSIDE);
        dueTold("9 as it was", x, 0, EQUAL, 3, 9, 3, 0, 1);
    }

    private static void strengthUnknown() {
        PullAndPush x = withEdges(0);
        addIdleWishes(x, 1);
        for (int w : NO_WISH) dueAll("9 strength(" + w + ", ..)", UNKNOWN, x.strength(w, 1, 1), x.strength(w, 4, 1), x.strength(w, 1, 0));
        dueAll("9 not made yet", UNKNOWN, x.strength(1, 1, 1), x.strength(1, -1, 1));
        x.take(0);
        dueAll("9 taken", UNKNOWN, x.strength(0, 1, 1), x.strength(0, 1, 10));
    }

    private static void strengthClash() {
        PullAndPush x = withEdges(0);
        wish(x, EQUAL, 0, 1, 5, 1);
        wish(x, EQUAL, 2, 4, 6, 1);
        due("9 outside ahead of clash", x.strength(1, 0, 10), OUTSIDE);
        due("9 no quarrel yet", x.quarrel(), 0);
        due("9 clash", x.strength(1, 0, 9), CLASH);
        due("9 quarrel", x.quarrel(), 3);
        dueTold("9 as it was", x, 1, EQUAL, 2, 4, 6);
        dueCost("9 as it was", x, 2, 4, 1);
        due("9 the must made weaker", x.strength(0, 3, 9), 1);
        due("9 no clash then", x.strength(1, 0, 9), 1);
        dueAt("9 the new must", x, 0, 6, 1);
        due("9 and the other way round", x.strength(0, 0, 1), CLASH);
    }

    private static void strengthOfAMust() {
        PullAndPush x = withEdges(0);
        wish(x, EQUAL, 0, 1, 5, 2);
        wish(x, AT_MOST, 0, 9, 5, 2);
        due("9 a must's weight", x.strength(0, 0, 9), 1);
        due("9 a must's weight", x.strength(1, 0, 1), 1);
        dueAt("9 counts for nothing", x, 0, 5, 2);
        dueTold("9 but is told", x, 0, EQUAL, 0, 9, 5);
    }

    private static void strengthHidden() {
        PullAndPush x = withEdges(0);
        wish(x, EQUAL, 0, 1, 5, 1);
        wish(x, EQUAL, 1, 1, 6, 1);
        x.hide(1, true);
        due("9 hidden", x.strength(1, 0, 2), 1);
        dueTold("9 hidden", x, 1, EQUAL, 0, 2, 6, 1);
        due("9 no must that is shown", x.count(2), 1);
        due("9 no quarrel yet", x.quarrel(), 0);
        due("9 shown", x.hide(1, false), CLASH);
        due("9 weaker again", x.strength(1, 3, 2), 1);
        due("9 shown then", x.hide(1, false), 1);
    }

    // ---- 10: told

    private static void toldBounds() {
        PullAndPush x = withEdges(0, 0, 0, 0, 0);
        wish(x, AT_LEAST, 3, 9, 1000, 3, -3, 2, -2, 3);
        dueTold("10 the greatest", x, 0, 2, 3, 9, 1000, 0, 3, -3, 2, -2, 3);
        wish(x, EQUAL, 0, 1, -1000, -3, 0, 0, 0, -3);
        dueTold("10 the least", x, 1, 0, 0, 1, -1000, 0, -3, 0, 0, 0, -3);
        for (int w = 0; w < 2; w++) dueAll("10 outside", OUTSIDE, x.told(w, -1), x.told(w, 10), x.told(w, LEAST), x.told(w, MOST));
        x.hide(0, true);
        x.drag(0, -1);
        x.strength(0, 1, 2);
        dueTold("10 as it is now", x, 0, 2, 1, 2, -1, 1, 3, -3, 2, -2, 3);
        dueTold("10 not as the other", x, 1, 0, 0, 1, -1000, 0, -3, 0, 0, 0, -3);
    }

    private static void toldUnknown() {
        PullAndPush x = withEdges(0);
        addIdleWishes(x, 1);
        for (int w : NO_WISH) dueAll("10 told(" + w + ", ..)", UNKNOWN, x.told(w, 0), x.told(w, 9), x.told(w, 10), x.told(w, -1));
        dueAll("10 not made yet", UNKNOWN, x.told(1, 0), x.told(1, 10));
        x.take(0);
        dueAll("10 taken", UNKNOWN, x.told(0, 0), x.told(0, 10));
    }

    private static void toldOfEdgesThatAreNotThere() {
        PullAndPush x = withEdges(0);
        wish(x, EQUAL, 1, 1, 0, 3);
        x.factor(4, 3);
        dueTold("10 0", x, 0, 0, 1, 1, 0, 0, 3, 0, 0, 0, 0);
        PullAndPush y = withEdges(0, 0);
        wish(y, EQUAL, 1, 1, 0, 3, 3);
        y.take(0);
        wish(y, EQUAL, 1, 1, 0, 1);
        dueTold("10 nothing of the one that stood there", y, 0, 0, 1, 1, 0, 0, 1, 0);
    }

    // ---- 11: count

    private static void countBounds() {
        PullAndPush x = withEdges(0, 0);
        dueAll("11 outside", OUTSIDE, x.count(-1), x.count(4), x.count(LEAST), x.count(MOST));
        dueCounts("11 edges alone", x, 2, 0, 0, 0);
    }

    private static void countEmptyAndFull() {
        PullAndPush x = new PullAndPush();
        dueCounts("11 empty", x, 0, 0, 0, 0);
        for (int e = 0; e < 5; e++) x.edge(0);
        for (int w = 0; w < 9; w++) wish(x, AT_MOST, 0, 1, 0, 1);
        dueCounts("11 full of musts", x, 5, 9, 9, 0);
        x.edge(0);
        wish(x, AT_MOST, 0, 1, 0, 1);
        dueCounts("11 what full refused", x, 5, 9, 9, 0);
        for (int w = 0; w < 9; w++) x.hide(w, true);
        dueCounts("11 full of hidden ones", x, 5, 9, 0, 0);
        for (int w = 0; w < 9; w++) x.take(w);
        dueCounts("11 all taken", x, 5, 0, 0, 0);
    }

    private static void countMustsThatAreNotHidden() {
        PullAndPush x = withEdges(0);
        for (int level = 0; level < 4; level++) wish(x, AT_MOST, level, 1, 0, 1);
        due("11 level 0 alone", x.count(2), 1);
        x.strength(3, 0, 1);
        due("11 made a must", x.count(2), 2);
        x.hide(0, true);
        due("11 one hidden", x.count(2), 1);
        x.take(3);
        due("11 one taken", x.count(2), 0);
    }

    private static void countNotMet() {
        PullAndPush x = withEdges(5);
        int[] weights = {9, 9, 9, 9, 9, 9, 9, 8, 1};
        for (int w = 0; w < 9; w++) wish(x, w < 4 ? AT_MOST : AT_LEAST, 1, weights[w], w < 4 ? 0 : 10, 1);
        dueAt("11 as strong both ways", x, 0, 5, 1);
        due("11 none met", x.count(3), 9);
        x.hide(8, true);
        dueAt("11 weaker by one", x, 0, 0, 1);
        due("11 the hidden one does not count", x.count(3), 4);
        x.hide(8, false);
        x.hide(0, true);
        dueAt("11 weaker the other way", x, 0, 10, 1);
        due("11 three", x.count(3), 3);
        x.take(1);
        due("11 nor does one that was taken", x.count(3), 2);
    }

    // ---- 12: quarrel

    private static void quarrelBeforeAClash() {
        PullAndPush x = withEdges(0);
        due("12 none", x.quarrel(), 0);
        wish(x, EQUAL, 0, 1, 5, 1);
        wish(x, EQUAL, 1, 1, 6, 1);
        dueAll("12 other refusals", OUTSIDE, x.drag(0, 1001), x.strength(1, 0, 10), x.wish(0, 0, 1, 1001));
        due("12 other refusals", x.wish(0, 0, 1, 6), STATE);
        due("12 none yet", x.quarrel(), 0);
    }

    private static void quarrelByEachCall() {
        PullAndPush x = withEdges(0);
        wish(x, EQUAL, 0, 1, 5, 1);
        wish(x, EQUAL, 0, 1, 5, 1);
        wish(x, EQUAL, 1, 1, 6, 1);
        wish(x, EQUAL, 0, 1, 5, 1);
        x.hide(3, true);
        x.drag(3, 7);
        due("12 wish", wish(x, EQUAL, 0, 1, 6, 1), CLASH);
        due("12 of wish", x.quarrel(), 1 << 1 | 1 << 4);
        due("12 strength", x.strength(2, 0, 1), CLASH);
        due("12 of strength", x.quarrel(), 1 << 1 | 1 << 2);
        due("12 hide", x.hide(3, false), CLASH);
        due("12 of hide", x.quarrel(), 1 << 1 | 1 << 3);
        due("12 drag", x.drag(0, 6), CLASH);
        due("12 of drag", x.quarrel(), 1 | 1 << 1);
        due("12 side", x.side(0, 0, 0, 9, 0, 1), CLASH);
        due("12 of side", x.quarrel(), 1 << 1 | 1 << 4);
    }

    private static void quarrelInOrder() {
        PullAndPush x = withEdges(0, 0);
        wish(x, AT_LEAST, 0, 1, 9, 1);
        wish(x, AT_LEAST, 0, 1, 9, 0, 1);
        wish(x, AT_LEAST, 0, 1, 18, 1, 1);
        due("12 two ways to quarrel", wish(x, AT_MOST, 0, 1, 17, 1, 1), CLASH);
        due("12 0 and 1 are left out, 2 is left", x.quarrel(), 1 << 2 | 1 << 3);
        x.take(2);
        due("12 the one of 0 and 1", wish(x, AT_MOST, 0, 1, 17, 1, 1), CLASH);
        due("12 both are needed", x.quarrel(), 1 | 1 << 1 | 1 << 2);
        due("12 2 again", wish(x, AT_LEAST, 0, 1, 17, 1, 1), 2);
        due("12 17 is not below 17", wish(x, AT_MOST, 0, 1, 17, 1, 1), CLASH);
        due("12 so 0 and 1 stay", x.quarrel(), 1 | 1 << 1 | 1 << 3);
    }

    private static void quarrelOfTheLatest() {
        PullAndPush x = withEdges(0);
        wish(x, EQUAL, 0, 1, 5, 1);
        due("12 first", wish(x, EQUAL, 0, 1, 6, 1), CLASH);
        due("12 first", x.quarrel(), 3);
        addIdleWishes(x, 1);
        due("12 what does not clash leaves it", x.quarrel(), 3);
        due("12 second", wish(x, EQUAL, 0, 1, 6, 1), CLASH);
        due("12 second", x.quarrel(), 5);
        x.take(0);
        x.take(1);
        x.settle();
        due("12 all taken, still told", x.quarrel(), 5);
    }

    private static void quarrelOfSix() {
        PullAndPush x = withEdges(0, 0, 0, 0, 0);
        addIdleWishes(x, 3);
        for (int e = 0; e < 5; e++) {
            x.factor(e, 1);
            due("12 each at least 1", x.wish(AT_LEAST, 0, 1, 1), 3 + e);
        }
        due("12 all together at most 4", wish(x, AT_MOST, 0, 1, 4, 1, 1, 1, 1, 1), CLASH);
        due("12 six of them, up to bit 8", x.quarrel(), 0x1f8);
        due("12 at most 5", wish(x, AT_MOST, 0, 1, 5, 1, 1, 1, 1, 1), 8);
        for (int e = 0; e < 5; e++) dueAt("12 at the border", x, e, 1, 1);
    }

    private static void quarrelWithTheNumberItWouldHave() {
        PullAndPush x = withEdges(0);
        addIdleWishes(x, 8);
        due("12 the last number", wish(x, AT_LEAST, 0, 1, 5, 1), 8);
        x.take(0);
        due("12 the first number", wish(x, AT_MOST, 0, 1, 4, 1), CLASH);
        due("12 bits 0 and 8", x.quarrel(), 1 | 1 << 8);
        due("12 number 0 is free still", wish(x, AT_MOST, 0, 1, 5, 1), 0);
    }
}
