/** At least one test a promise of ../shared/DOC.md, with answers found by hand. */
public final class PromisesTest extends ByHand {
    public static void main(String[] args) {
        promise1();
        promise2();
        promise3();
        promise4();
        promise4Order();
        promise5();
        promise6();
        promise7();
        promise8();
        promise9();
        promise10();
        promise11();
        promise12();
        promise13();
        promise14();
        promise15();
        promise16();
        promise17();
        promise18();
        promise19();
        promise20();
        setting();
        readme();
        end("PromisesTest");
    }

    private static void promise1() {
        PullAndPush x = new PullAndPush();
        for (int what = 0; what < 4; what++) due("1 count " + what, x.count(what), 0);
        for (int e = 0; e < 5; e++) due("1 factor " + e, x.factor(e, 0), 0);
        due("1 quarrel", x.quarrel(), 0);
        due("1 settle", x.settle(), 0);
        due("1 wish", x.wish(EQUAL, 1, 1, 0), STATE);
        dueAll("1 none there", UNKNOWN, x.at(0, 0), x.pixel(0), x.stay(0), x.move(0, 0), x.side(0, 0, 0, 0, 1, 1));
        dueAll("1 no wish there", UNKNOWN, x.told(0, 0), x.take(0), x.hide(0, true), x.drag(0, 0), x.strength(0, 1, 1), x.off(0, 0), x.why(0));
        due("1 cost", x.cost(1, 0), 0);
        due("1 cost below", x.cost(1, 1), 1);
    }

    private static void promise2() {
        PullAndPush x = new PullAndPush();
        dueAll("2 outside", OUTSIDE, x.edge(100001), x.edge(-100001), x.edge(LEAST), x.edge(MOST));
        due("2 first", x.edge(100000), 0);
        due("2 wish", wish(x, EQUAL, 0, 1, 7, 1), 0);
        x.factor(1, 2);
        due("2 second", x.edge(-100000), 1);
        due("2 its factor in a wish that there is", x.told(0, 6), 0);
        due("2 what was told of its factor stays", x.factor(1, 0), 2);
        dueAt("2 moved by a must", x, 0, 7, 1);
        dueAt("2 at its stay", x, 1, -100000, 1);
        for (int e = 2; e < 5; e++) due("2 edge", x.edge(e), e);
        due("2 full", x.edge(0), FULL);
        due("2 outside ahead of full", x.edge(100001), OUTSIDE);
        due("2 count", x.count(0), 5);
    }

    private static void promise3() {
        PullAndPush x = new PullAndPush();
        dueAll("3 edges outside", OUTSIDE, x.factor(-1, 0), x.factor(5, 0), x.factor(LEAST, 1), x.factor(MOST, 1));
        dueAll("3 factors outside", OUTSIDE, x.factor(0, 4), x.factor(0, -4), x.factor(0, LEAST), x.factor(0, MOST));
        due("3 was", x.factor(4, 3), 0);
        due("3 was 3", x.factor(4, -3), 3);
        due("3 refused", x.factor(4, 4), OUTSIDE);
        due("3 was -3 still", x.factor(4, 0), -3);
        due("3 each its own", x.factor(0, 1), 0);
        due("3 kept by edge", x.edge(5), 0);
        due("3 used by the next wish", x.wish(EQUAL, 1, 1, 8), 0);
        due("3 told", x.told(0, 5), 1);
        due("3 0 behind that", x.factor(0, 0), 0);
    }

    private static void promise4() {
        PullAndPush x = withEdges(50);
        due("4 at most, met", wish(x, AT_MOST, 0, 1, 60, 1), 0);
        dueAt("4 stays", x, 0, 50, 1);
        due("4 at most", wish(x, AT_MOST, 1, 1, 40, 1), 1);
        dueAt("4 down", x, 0, 40, 1);
        due("4 at least", wish(x, AT_LEAST, 0, 1, 45, 1), 2);
        dueAt("4 up", x, 0, 45, 1);
        due("4 equal", wish(x, EQUAL, 1, 9, 55, 1), 3);
        dueAt("4 the heavier", x, 0, 55, 1);
        due("4 bounds of numbers", wish(x, AT_MOST, 3, 9, 1000, -3), 4);
        due("4 bounds of numbers", wish(x, AT_LEAST, 3, 9, -1000, 3), 5);
        dueAll("4 relation", OUTSIDE, x.wish(-1, 1, 1, 0), x.wish(3, 1, 1, 0), x.wish(LEAST, 1, 1, 0), x.wish(MOST, 1, 1, 0));
        dueAll("4 level", OUTSIDE, x.wish(0, -1, 1, 0), x.wish(0, 4, 1, 0), x.wish(0, LEAST, 1, 0), x.wish(0, MOST, 1, 0));
        dueAll("4 weight", OUTSIDE, x.wish(0, 1, 0, 0), x.wish(0, 1, 10, 0), x.wish(0, 1, LEAST, 0), x.wish(0, 1, MOST, 0));
        dueAll("4 number", OUTSIDE, x.wish(0, 1, 1, -1001), x.wish(0, 1, 1, 1001), x.wish(0, 1, 1, LEAST), x.wish(0, 1, 1, MOST));
        due("4 taken", x.take(1), 5);
        due("4 taken", x.take(0), 4);
        due("4 the least free number", wish(x, EQUAL, 3, 1, 0, 1), 0);
        due("4 the next", wish(x, EQUAL, 3, 1, 0, 1), 1);
        due("4 then behind", wish(x, EQUAL, 3, 1, 0, 1), 6);
    }

    private static void promise4Order() {
        PullAndPush x = withEdges(0);
        due("4 no factors", x.wish(EQUAL, 0, 1, 1), STATE);
        x.factor(0, 2);
        x.factor(3, 1);
        due("4 outside ahead of state", x.wish(EQUAL, 0, 1, 1001), OUTSIDE);
        due("4 no such edge", x.wish(EQUAL, 0, 1, 1), STATE);
        due("4 state leaves factors", x.factor(3, 0), 1);
        due("4 state left the other", x.wish(EQUAL, 0, 1, 3), 0);
        due("4 clash", wish(x, EQUAL, 0, 1, 4, 2), CLASH);
        due("4 quarrel", x.quarrel(), 3);
        due("4 clash takes factors", x.factor(0, 0), 0);
        for (int w = 1; w < 9; w++) due("4 wish", wish(x, AT_LEAST, 1, 1, 0, 1), w);
        x.factor(0, 1);
        x.factor(1, 1);
        due("4 state ahead of full", x.wish(EQUAL, 0, 1, 9), STATE);
        x.factor(1, 0);
        due("4 full ahead of clash", x.wish(EQUAL, 0, 1, 9), FULL);
        due("4 full takes factors", x.factor(0, 0), 0);
        due("4 count", x.count(1), 9);
    }

    private static void promise5() {
        PullAndPush x = withEdges(10, 20, 99, 4);
        x.factor(0, 3);
        due("5 side", x.side(0, 1, 2, 5, 0, 2), 0);
        dueTold("5 side", x, 0, 0, 0, 2, -5, 0, 1, 1, -1, 0, 0);
        dueAt("5 laid side by side", x, 2, 35, 1);
        due("5 a left that is the width", x.side(3, 3, 0, 0, 1, 1), 1);
        due("5 told 2", x.told(1, 8), 2);
        due("5 told -1", x.told(1, 5), -1);
        due("5 both lefts alike", x.side(3, 1, 3, 1000, 3, 9), 2);
        due("5 told 0", x.told(2, 8), 0);
        due("5 told 1", x.told(2, 6), 1);
        due("5 told -1000", x.told(2, 3), -1000);
        due("5 all alike", x.side(3, 3, 3, 0, 3, 9), 3);
        due("5 told 1", x.told(3, 8), 1);
        due("5 gap 0", x.told(3, 3), 0);
        due("5 factors told stay", x.factor(0, 0), 3);
        dueAll("5 unknown", UNKNOWN, x.side(-1, 0, 0, 0, 1, 1), x.side(0, 4, 0, 0, 1, 1), x.side(0, 0, MOST, 0, 1, 1), x.side(LEAST, 0, 0, 0, 1, 1));
        due("5 unknown ahead of outside", x.side(0, 0, 4, -1, 1, 1), UNKNOWN);
        dueAll("5 outside", OUTSIDE, x.side(0, 1, 2, -1, 1, 1), x.side(0, 1, 2, 1001, 1, 1), x.side(0, 1, 2, LEAST, 1, 1), x.side(0, 1, 2, MOST, 1, 1));
        dueAll("5 strength", OUTSIDE, x.side(0, 1, 2, 0, -1, 1), x.side(0, 1, 2, 0, 4, 1), x.side(0, 1, 2, 0, 1, 0), x.side(0, 1, 2, 0, 1, 10));
        due("5 clash", x.side(0, 1, 2, 6, 0, 1), CLASH);
        due("5 quarrel", x.quarrel(), 1 | 1 << 4);
        for (int w = 4; w < 9; w++) due("5 wish", x.side(0, 1, 2, 5, 1, 1), w);
        due("5 full ahead of clash", x.side(0, 1, 2, 7, 0, 1), FULL);
    }

    private static void promise6() {
        PullAndPush x = withEdges(3);
        wish(x, EQUAL, 0, 1, 8, 1);
        wish(x, EQUAL, 1, 1, 9, 1);
        dueAt("6 must", x, 0, 8, 1);
        dueAll("6 unknown", UNKNOWN, x.take(2), x.take(-1), x.take(9), x.take(LEAST), x.take(MOST));
        due("6 left", x.take(0), 1);
        dueAt("6 without", x, 0, 9, 1);
        due("6 there no more", x.take(0), UNKNOWN);
        due("6 told", x.told(0, 0), UNKNOWN);
        due("6 the last", x.take(1), 0);
        dueAt("6 none", x, 0, 3, 1);
    }

    private static void promise7() {
        PullAndPush x = withEdges(3);
        wish(x, EQUAL, 0, 1, 8, 1);
        due("7 hide", x.hide(0, true), 0);
        dueAt("7 hidden", x, 0, 3, 1);
        due("7 told", x.told(0, 4), 1);
        due("7 again", x.hide(0, true), 1);
        due("7 another must", wish(x, EQUAL, 0, 1, 9, 1), 1);
        due("7 clash", x.hide(0, false), CLASH);
        due("7 quarrel", x.quarrel(), 3);
        due("7 nothing changed", x.told(0, 4), 1);
        dueAt("7 nothing changed", x, 0, 9, 1);
        due("7 drag a hidden must freely", x.drag(0, 9), 8);
        due("7 show", x.hide(0, false), 1);
        due("7 show again", x.hide(0, false), 0);
        due("7 count", x.count(2), 2);
        dueAll("7 unknown", UNKNOWN, x.hide(2, true), x.hide(-1, false), x.hide(9, true), x.hide(MOST, true), x.hide(LEAST, true));
        x.hide(0, true);
        x.take(0);
        wish(x, EQUAL, 1, 1, 4, 1);
        due("7 a new wish is not hidden", x.told(0, 4), 0);
    }

    private static void promise8() {
        PullAndPush x = withEdges(3);
        wish(x, AT_LEAST, 0, 1, 8, 1);
        due("8 drag", x.drag(0, 1000), 8);
        dueAt("8 dragged", x, 0, 1000, 1);
        due("8 drag", x.drag(0, -1000), 1000);
        dueAt("8 dragged", x, 0, 3, 1);
        wish(x, AT_MOST, 0, 1, 5, 1);
        due("8 to the border", x.drag(0, 5), -1000);
        due("8 clash", x.drag(0, 6), CLASH);
        due("8 quarrel", x.quarrel(), 3);
        due("8 nothing changed", x.told(0, 3), 5);
        dueAt("8 nothing changed", x, 0, 5, 1);
        dueAll("8 outside", OUTSIDE, x.drag(0, 1001), x.drag(0, -1001), x.drag(0, LEAST), x.drag(0, MOST));
        dueAll("8 unknown", UNKNOWN, x.drag(2, 0), x.drag(-1, 0), x.drag(9, 0));
        due("8 unknown ahead of outside", x.drag(2, 1001), UNKNOWN);
        due("8 a softer wish", x.strength(1, 1, 1), 1);
        due("8 no clash then", x.drag(0, 6), 5);
    }

    private static void promise9() {
        PullAndPush x = withEdges(3);
        wish(x, EQUAL, 1, 5, 10, 1);
        wish(x, EQUAL, 1, 4, 20, 1);
        dueAt("9 heavier", x, 0, 10, 1);
        due("9 weight", x.strength(1, 1, 6), 1);
        dueAt("9 the other is heavier", x, 0, 20, 1);
        due("9 level", x.strength(1, 2, 9), 1);
        dueAt("9 the other is stronger", x, 0, 10, 1);
        due("9 must", x.strength(1, 0, 1), 1);
        dueAt("9 must", x, 0, 20, 1);
        due("9 clash", x.strength(0, 0, 7), CLASH);
        due("9 quarrel", x.quarrel(), 3);
        due("9 level as it was", x.told(0, 1), 1);
        due("9 weight as it was", x.told(0, 2), 5);
        dueAll("9 outside", OUTSIDE, x.strength(0, -1, 1), x.strength(0, 4, 1), x.strength(0, 1, 0), x.strength(0, 1, 10), x.strength(0, LEAST, MOST));
        dueAll("9 unknown", UNKNOWN, x.strength(2, 1, 1), x.strength(-1, 1, 1), x.strength(9, 4, 1));
        x.hide(0, true);
        due("9 a hidden one does not clash", x.strength(0, 0, 7), 1);
        due("9 but when it is shown", x.hide(0, false), CLASH);
    }

    private static void promise10() {
        PullAndPush x = withEdges(3, 4, 5);
        wish(x, AT_LEAST, 3, 7, -12, -3, 0, 2);
        dueTold("10 told", x, 0, 2, 3, 7, -12, 0, -3, 0, 2, 0, 0);
        dueAll("10 outside", OUTSIDE, x.told(0, -1), x.told(0, 10), x.told(0, LEAST), x.told(0, MOST));
        dueAll("10 unknown", UNKNOWN, x.told(1, 0), x.told(-1, 0), x.told(9, 0), x.told(1, 10));
        x.hide(0, true);
        due("10 hidden", x.told(0, 4), 1);
    }

    private static void promise11() {
        PullAndPush x = withEdges(0, 0);
        wish(x, EQUAL, 0, 1, 5, 1);
        wish(x, AT_MOST, 0, 1, 9, 1);
        wish(x, EQUAL, 1, 1, 6, 1);
        wish(x, EQUAL, 2, 1, 7, 1);
        wish(x, EQUAL, 3, 1, 8, 0, 1);
        dueCounts("11 all", x, 2, 5, 2, 2);
        x.hide(1, true);
        x.hide(3, true);
        dueCounts("11 hidden", x, 2, 5, 1, 1);
        dueAll("11 outside", OUTSIDE, x.count(-1), x.count(4), x.count(LEAST), x.count(MOST));
    }

    private static void promise12() {
        PullAndPush x = withEdges(0, 0);
        due("12 none", x.quarrel(), 0);
        wish(x, AT_LEAST, 0, 1, 5, 1);
        wish(x, AT_LEAST, 0, 1, 6, 1);
        wish(x, AT_LEAST, 0, 1, 1, 0, 1);
        wish(x, AT_MOST, 1, 1, -50, 1);
        due("12 clash", wish(x, AT_MOST, 0, 1, 4, 1), CLASH);
        due("12 the first of two that would do is left out", x.quarrel(), 1 << 1 | 1 << 4);
        due("12 no clash", wish(x, AT_MOST, 0, 1, 6, 1), 4);
        due("12 still the latest", x.quarrel(), 1 << 1 | 1 << 4);
        due("12 three at once", wish(x, AT_MOST, 0, 1, 6, 1, 1), CLASH);
        due("12 quarrel of three", x.quarrel(), 1 << 1 | 1 << 2 | 1 << 5);
        x.hide(1, true);
        due("12 a hidden one is not in it", wish(x, AT_MOST, 0, 1, 5, 1, 1), CLASH);
        due("12 another", x.quarrel(), 1 << 0 | 1 << 2 | 1 << 5);
        x.take(0);
        due("12 a free number", wish(x, AT_MOST, 0, 1, -1, 1, 1), 0);
        due("12 drag", x.drag(1, 9), 6);
        due("12 shown", x.hide(1, false), CLASH);
        due("12 by the shown", x.quarrel(), 1 << 1 | 1 << 4);
    }

    private static void promise13() {
        PullAndPush x = withEdges(0, 7);
        wish(x, EQUAL, 0, 1, 4, 3, 0);
        dueAt("13 a fraction", x, 0, 4, 3);
        wish(x, EQUAL, 0, 1, 4, 3, -2);
        dueAt("13 a zero", x, 1, 0, 1);
        x.drag(1, 1000);
        dueAt("13 below 0", x, 1, -498, 1);
        x.drag(0, -1000);
        dueAt("13 below 0", x, 0, -1000, 3);
        dueAt("13 least terms", x, 1, -1000, 1);
        dueAll("13 outside", OUTSIDE, x.at(0, -1), x.at(0, 2), x.at(0, LEAST), x.at(0, MOST));
        dueAll("13 unknown", UNKNOWN, x.at(2, 0), x.at(-1, 0), x.at(5, 0), x.at(2, 2), x.at(LEAST, 0), x.at(MOST, 0));
    }

    private static void promise14() {
        PullAndPush x = withEdges(0);
        wish(x, EQUAL, 0, 1, 7, 2);
        int[] twice = {7, 4, 1, 1, 0, 0, -1, 0, -7, -3, -8, -4, -3, -1};
        for (int i = 0; i < twice.length; i += 2) {
            x.drag(0, twice[i]);
            due("14 pixel of " + twice[i] + "/2", x.pixel(0), twice[i + 1]);
        }
        x.take(0);
        wish(x, EQUAL, 0, 1, 7, 3);
        int[] thrice = {1, 0, 2, 1, 4, 1, 5, 2, -1, 0, -2, -1, -4, -1, -5, -2};
        for (int i = 0; i < thrice.length; i += 2) {
            x.drag(0, thrice[i]);
            due("14 pixel of " + thrice[i] + "/3", x.pixel(0), thrice[i + 1]);
        }
        dueAll("14 unknown", UNKNOWN, x.pixel(1), x.pixel(-1), x.pixel(5), x.pixel(LEAST), x.pixel(MOST));
    }

    private static void promise15() {
        PullAndPush x = withEdges(0);
        wish(x, EQUAL, 0, 1, 7, 3);
        wish(x, EQUAL, 1, 1, 3, 1);
        wish(x, AT_MOST, 1, 1, 2, 1);
        wish(x, AT_LEAST, 1, 1, 2, 1);
        wish(x, AT_LEAST, 1, 1, -3, -2);
        wish(x, AT_MOST, 1, 1, 3, 1);
        dueOff("15 a must", x, 0, 0, 1);
        dueOff("15 below", x, 1, 2, 3);
        dueOff("15 above at most", x, 2, 1, 3);
        dueOff("15 above at least", x, 3, 0, 1);
        dueOff("15 below at least", x, 4, 5, 3);
        dueOff("15 below at most", x, 5, 0, 1);
        x.hide(0, true);
        dueAt("15 without the must the cost is alike from 3/2 to 2, and the stay is 0", x, 0, 3, 2);
        dueOff("15 hidden", x, 0, 5, 2);
        dueAll("15 outside", OUTSIDE, x.off(0, -1), x.off(0, 2), x.off(0, LEAST), x.off(0, MOST));
        dueAll("15 unknown", UNKNOWN, x.off(6, 0), x.off(-1, 0), x.off(9, 0), x.off(6, 2), x.off(LEAST, 0), x.off(MOST, 0));
    }

    private static void promise16() {
        PullAndPush x = withEdges(0);
        wish(x, EQUAL, 0, 9, 7, 3);
        wish(x, EQUAL, 1, 4, 3, 1);
        wish(x, AT_MOST, 1, 2, 2, 1);
        wish(x, AT_LEAST, 2, 9, 3, 1);
        dueCost("16 a fraction", x, 1, 10, 3);
        dueCost("16 a whole number", x, 2, 6, 1);
        dueCost("16 none", x, 3, 0, 1);
        x.hide(1, true);
        dueCost("16 hidden does not count", x, 1, 2, 3);
        dueAll("16 outside", OUTSIDE, x.cost(0, 0), x.cost(4, 0), x.cost(-1, 0), x.cost(LEAST, 0), x.cost(MOST, 0));
        dueAll("16 outside", OUTSIDE, x.cost(1, -1), x.cost(1, 2), x.cost(1, LEAST), x.cost(1, MOST));
    }

    private static void promise17() {
        PullAndPush x = withEdges(10);
        wish(x, EQUAL, 1, 1, 0, 1);
        wish(x, EQUAL, 1, 1, 10, 1);
        wish(x, EQUAL, 2, 1, 3, 1);
        dueAt("17 level 2 speaks where level 1 does not", x, 0, 3, 1);
        due("17 a level above is not told, though w would be nearer without", x.why(1), 1);
        due("17 met", x.why(2), 0);
        x.strength(2, 1, 1);
        due("17 one of the same level is told", x.why(1), 1 | 1 << 2);
        x.hide(1, true);
        due("17 hidden", x.why(1), 0);
        due("17 others see no hidden ones", x.why(0), 1 << 2);
        x.hide(1, false);
        x.hide(0, true);
        due("17 hidden, though it would be nearer without another", x.why(0), 0);
        x.hide(0, false);
        x.hide(1, true);
        wish(x, AT_LEAST, 0, 1, 2, 1);
        wish(x, AT_LEAST, 0, 1, 2, 1);
        x.drag(2, 0);
        due("17 two alike, neither alone", x.why(0), 0);
        x.drag(4, 1);
        due("17 the farther of two", x.why(0), 1 << 3);
        due("17 a must", x.why(3), 0);
        dueAt("17 nothing changed by trying", x, 0, 2, 1);
        due("17 nothing changed by trying", x.count(1), 5);
        dueAll("17 unknown", UNKNOWN, x.why(5), x.why(-1), x.why(9), x.why(LEAST), x.why(MOST));
    }

    private static void promise18() {
        PullAndPush x = withEdges(-100000, -1);
        wish(x, EQUAL, 0, 1, 4, 1);
        due("18 stay, not place", x.stay(0), -100000);
        due("18 stay", x.stay(1), -1);
        dueAll("18 unknown", UNKNOWN, x.stay(2), x.stay(-1), x.stay(5), x.stay(LEAST), x.stay(MOST));
    }

    private static void promise19() {
        PullAndPush x = withEdges(1, 2);
        wish(x, EQUAL, 0, 1, 10, 1, 1);
        dueAt("19 the first edge stays", x, 1, 9, 1);
        due("19 was", x.move(0, 100000), 1);
        dueAt("19 moved", x, 0, 100000, 1);
        dueAt("19 moved", x, 1, -99990, 1);
        due("19 was", x.move(0, -100000), 100000);
        due("19 stay", x.stay(0), -100000);
        dueAll("19 outside", OUTSIDE, x.move(0, 100001), x.move(0, -100001), x.move(0, LEAST), x.move(0, MOST));
        dueAll("19 unknown", UNKNOWN, x.move(2, 0), x.move(-1, 0), x.move(5, 0), x.move(2, 100001));
        due("19 nothing changed", x.stay(0), -100000);
    }

    private static void promise20() {
        PullAndPush x = withEdges(0, 0, 6);
        wish(x, EQUAL, 0, 1, 7, 2, 0, 0);
        wish(x, EQUAL, 0, 1, -7, 0, 2, 0);
        due("20 two changed", x.settle(), 2);
        due("20 up", x.stay(0), 4);
        due("20 up", x.stay(1), -3);
        due("20 as it was", x.stay(2), 6);
        dueAt("20 the musts still hold", x, 0, 7, 2);
        due("20 none changed", x.settle(), 0);
        x.take(0);
        dueAt("20 left where it was drawn", x, 0, 4, 1);

        PullAndPush far = withEdges(5, 100000, 0);
        wish(far, EQUAL, 1, 1, 6, 1);
        wish(far, EQUAL, 0, 1, -1, 0, 1, -1);
        due("20 a pixel outside", far.settle(), STATE);
        due("20 nothing changed", far.stay(0), 5);
        due("20 nothing changed", far.stay(2), 0);
        far.drag(1, 0);
        due("20 just inside", far.settle(), 2);
        due("20 all at once", far.stay(0), 6);
        due("20 at the bound", far.stay(2), 100000);

        PullAndPush near = withEdges(0);
        wish(near, AT_LEAST, 0, 1, 7, 2);
        dueAt("20 as near as can be", near, 0, 7, 2);
        due("20 one changed", near.settle(), 1);
        dueAt("20 now at its stay", near, 0, 4, 1);

        PullAndPush low = withEdges(-100000, 0);
        wish(low, EQUAL, 0, 1, 1, 2, -2);
        due("20 -100000 and a half less is drawn at -100000", low.settle(), 1);
        due("20 at the bound", low.stay(1), -100000);
        low.drag(0, 2);
        due("20 one further is outside", low.settle(), STATE);
    }

    private static void setting() {
        PullAndPush x = withEdges(0, 0, 0);
        wish(x, EQUAL, 0, 1, 30, 1, 1, 1);
        dueAt("earlier edges keep their stays", x, 0, 0, 1);
        dueAt("earlier edges keep their stays", x, 1, 0, 1);
        dueAt("the last one gives way", x, 2, 30, 1);
        wish(x, AT_MOST, 3, 1, 10, 0, 0, 1);
        dueAt("a wish of level 3 is ahead of stays", x, 2, 10, 1);
        dueAt("then edge 0", x, 0, 0, 1);
        dueAt("then edge 1", x, 1, 20, 1);
        wish(x, EQUAL, 2, 1, 25, 0, 0, 1);
        dueAt("level 2 is ahead of 3", x, 2, 25, 1);
        wish(x, EQUAL, 1, 1, 26, 0, 0, 1);
        dueAt("level 1 is ahead of 2", x, 2, 26, 1);
        x.strength(1, 3, 9);
        dueAt("no weight makes up for a level", x, 2, 26, 1);
    }

    /** The example of README.md, call by call. */
    private static void readme() {
        PullAndPush x = new PullAndPush();
        int left = x.edge(10);
        int width = x.edge(100);
        int right = x.edge(0);
        x.factor(width, 1);
        int w = x.wish(1, 0, 1, 80);
        due("readme side", x.side(left, width, right, 4, 1, 1), 1);
        dueAt("readme", x, right, 94, 1);
        x.factor(width, 1);
        due("readme clash", x.wish(2, 0, 1, 90), CLASH);
        due("readme quarrel", x.quarrel(), 5);
        x.factor(width, 1);
        int u = x.wish(2, 1, 1, 90);
        dueOff("readme", x, u, 10, 1);
        due("readme why", x.why(u), 1);
        due("readme drag", x.drag(w, 85), 80);
        dueAt("readme dragged", x, right, 99, 1);
        due("readme settle", x.settle(), 2);
    }
}
