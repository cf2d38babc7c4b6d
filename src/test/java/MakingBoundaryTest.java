/** Promises 1 to 5: a test for each sentence that names a boundary of what is made. */
public final class MakingBoundaryTest extends ByHand {
    public static void main(String[] args) {
        newObjectIsEmpty();
        newObjectsShareNothing();
        lastCallThatIsPromised();
        edgeStayBounds();
        edgeRefusedIsNotThere();
        edgesFiveAtMost();
        edgeHasNoFactorInWishesThatThereAre();
        edgeBehindTheSettingWasAsked();
        factorBounds();
        factorOfAnEdgeThatIsNotThere();
        factorIsForTheNextWishAlone();
        wishBoundsTaken();
        wishBoundsRefused();
        wishOfNoFactors();
        wishOfAnEdgeThatIsNotThere();
        wishesNineAtMost();
        wishLeastFreeNumber();
        wishFactorsBehindIt();
        wishOrderOfRefusals();
        wishClashByOne();
        wishesBelowMustsNeverClash();
        sideGapBounds();
        sideStrengthBounds();
        sideEdgesUnknown();
        sideEdgesAlike();
        sideIsOfRelationEqual();
        sideOrderOfRefusals();
        sideLeavesFactors();
        end("MakingBoundaryTest");
    }

    // ---- 1: a new object

    private static void newObjectIsEmpty() {
        PullAndPush x = new PullAndPush();
        dueCounts("1 empty", x, 0, 0, 0, 0);
        dueFactors("1 factors to come", x, 0, 0, 0, 0, 0);
        due("1 quarrel is empty", x.quarrel(), 0);
        for (int e = 0; e < 5; e++) dueAll("1 no edge " + e, UNKNOWN, x.at(e, 0), x.at(e, 1), x.pixel(e), x.stay(e), x.move(e, 0), x.side(e, e, e, 0, 1, 1));
        for (int w = 0; w < 9; w++) dueAll("1 no wish " + w, UNKNOWN, x.told(w, 0), x.take(w), x.hide(w, true), x.hide(w, false), x.drag(w, 0), x.strength(w, 1, 1), x.off(w, 0), x.why(w));
        for (int level = 1; level < 4; level++) dueCost("1 no cost", x, level, 0, 1);
        due("1 nothing to settle", x.settle(), 0);
        due("1 no factors, no wish", x.wish(EQUAL, 1, 1, 0), STATE);
        dueCounts("1 still empty", x, 0, 0, 0, 0);
    }

    private static void newObjectsShareNothing() {
        PullAndPush x = withEdges(7);
        wish(x, AT_LEAST, 0, 1, 9, 1);
        due("1 clash in one", wish(x, AT_MOST, 0, 1, 8, 1), CLASH);
        x.factor(0, 2);
        PullAndPush y = new PullAndPush();
        dueCounts("1 the other is empty", y, 0, 0, 0, 0);
        dueFactors("1 the other's factors", y, 0, 0, 0, 0, 0);
        due("1 the other's quarrel", y.quarrel(), 0);
        due("1 the other's edge", y.edge(5), 0);
        dueAt("1 the first one's edge", x, 0, 9, 1);
        dueFactors("1 the first one's factors", x, 2, 0, 0, 0, 0);
    }

    /** 5 edges, 8 wishes, 249 times two calls that try much, and one more: 512 calls. */
    private static void lastCallThatIsPromised() {
        PullAndPush x = withEdges(1, 2, 3, 4, 5);
        for (int w = 0; w < 8; w++) due("1 wish", x.side(0, 0, 0, 5 + w / 2, w / 2, 1), w);
        for (int i = 0; i < 249; i++) {
            due("1 why", x.why(7), 0);
            due("1 drag", x.drag(0, 4), CLASH);
        }
        due("1 the last call", x.at(0, 0), -5);
    }

    // ---- 2: edge

    private static void edgeStayBounds() {
        for (int stay : new int[] {-100000, -99999, -1, 0, 1, 99999, 100000}) {
            PullAndPush x = new PullAndPush();
            due("2 edge(" + stay + ")", x.edge(stay), 0);
            due("2 stay " + stay, x.stay(0), stay);
            dueAt("2 at its stay", x, 0, stay, 1);
        }
        for (int stay : new int[] {-100001, 100001, -200000, 200000, LEAST, LEAST + 1, MOST}) {
            due("2 edge(" + stay + ")", new PullAndPush().edge(stay), OUTSIDE);
        }
    }

    private static void edgeRefusedIsNotThere() {
        PullAndPush x = withEdges(4);
        due("2 too large", x.edge(100001), OUTSIDE);
        due("2 too small", x.edge(-100001), OUTSIDE);
        due("2 not counted", x.count(0), 1);
        due("2 not there", x.stay(1), UNKNOWN);
        due("2 its number is the next one's", x.edge(6), 1);
    }

    private static void edgesFiveAtMost() {
        PullAndPush x = withEdges(10, 11, 12, 13, 14);
        due("2 a sixth", x.edge(15), FULL);
        due("2 a sixth again", x.edge(0), FULL);
        due("2 outside is ahead of full", x.edge(-100001), OUTSIDE);
        due("2 outside is ahead of full", x.edge(100001), OUTSIDE);
        due("2 five", x.count(0), 5);
        for (int e = 0; e < 5; e++) due("2 stay as it was", x.stay(e), 10 + e);
        dueAll("2 no edge 5", UNKNOWN, x.stay(5), x.at(5, 0), x.pixel(5), x.move(5, 0));
    }

    private static void edgeHasNoFactorInWishesThatThereAre() {
        PullAndPush x = withEdges(5);
        wish(x, EQUAL, 0, 1, 8, 1);
        wish(x, EQUAL, 1, 1, 9, 3);
        x.hide(1, true);
        x.factor(1, 3);
        x.factor(4, -3);
        for (int e = 1; e < 5; e++) {
            due("2 edge", x.edge(100 * e), e);
            dueAll("2 factor 0 in wishes that there are", 0, x.told(0, 5 + e), x.told(1, 5 + e));
            dueAt("2 no wish moves it", x, e, 100 * e, 1);
        }
        dueFactors("2 what was told is for the next wish", x, 0, 3, 0, 0, -3);
        due("2 which has it", x.wish(EQUAL, 1, 1, 0), 2);
        dueTold("2 which has it", x, 2, 0, 1, 1, 0, 0, 0, 3, 0, 0, -3);
    }

    private static void edgeBehindTheSettingWasAsked() {
        PullAndPush x = withEdges(5);
        due("2 before", x.at(1, 0), UNKNOWN);
        due("2 edge", x.edge(-6), 1);
        dueAt("2 behind", x, 1, -6, 1);
        due("2 pixel", x.pixel(1), -6);
    }

    // ---- 3: factor

    private static void factorBounds() {
        PullAndPush x = withEdges(0, 0, 0, 0, 0);
        for (int e = 0; e < 5; e++) {
            int was = 0;
            for (int f = -3; f <= 3; f++) {
                due("3 factor(" + e + ", " + f + ")", x.factor(e, f), was);
                was = f;
            }
            dueAll("3 outside", OUTSIDE, x.factor(e, -4), x.factor(e, 4), x.factor(e, LEAST), x.factor(e, MOST));
            due("3 refused, so what it was", x.factor(e, 1), 3);
        }
        for (int e : new int[] {-1, 5, 6, LEAST, MOST}) dueAll("3 edge " + e, OUTSIDE, x.factor(e, 0), x.factor(e, 3), x.factor(e, 4));
        dueFactors("3 nothing changed", x, 1, 1, 1, 1, 1);
    }

    private static void factorOfAnEdgeThatIsNotThere() {
        PullAndPush x = new PullAndPush();
        for (int e = 0; e < 5; e++) due("3 not there", x.factor(e, e - 2), 0);
        dueFactors("3 kept", x, -2, -1, 0, 1, 2);
        for (int e = 0; e < 5; e++) x.edge(0);
        dueFactors("3 kept when they come", x, -2, -1, 0, 1, 2);
        due("3 used", x.wish(AT_LEAST, 3, 9, -1), 0);
        dueTold("3 used", x, 0, 2, 3, 9, -1, 0, -2, -1, 0, 1, 2);
    }

    private static void factorIsForTheNextWishAlone() {
        PullAndPush x = withEdges(0);
        wish(x, EQUAL, 1, 1, 6, 2);
        due("3 0 behind the wish", x.factor(0, 3), 0);
        due("3 the wish keeps its own", x.told(0, 5), 2);
        dueAt("3 the wish keeps its own", x, 0, 3, 1);
        due("3 the latest one counts", x.factor(0, -1), 3);
        due("3 the next", x.wish(EQUAL, 1, 1, 6), 1);
        due("3 the next has the latest", x.told(1, 5), -1);
        due("3 the one behind has none", x.wish(EQUAL, 1, 1, 6), STATE);
    }

    // ---- 4: wish

    private static void wishBoundsTaken() {
        for (int relation = 0; relation < 3; relation++) {
            PullAndPush x = withEdges(0);
            for (int level = 0; level < 4; level++) {
                due("4 wish", wish(x, relation, level, 1, relation == AT_LEAST ? -1000 : 1000, 1), 2 * level);
                dueTold("4 least weight", x, 2 * level, relation, level, 1, relation == AT_LEAST ? -1000 : 1000, 0, 1);
                due("4 wish", wish(x, relation, level, 9, relation == AT_LEAST ? 1000 : -1000, -1), 2 * level + 1);
                dueTold("4 most weight", x, 2 * level + 1, relation, level, 9, relation == AT_LEAST ? 1000 : -1000, 0, -1);
            }
            dueAt("4 at the bound", x, 0, relation == EQUAL ? 1000 : relation == AT_MOST ? 1000 : -1000, 1);
        }
    }

    private static void wishBoundsRefused() {
        PullAndPush x = withEdges(0);
        x.factor(0, 2);
        dueAll("4 relation", OUTSIDE, x.wish(-1, 0, 1, 0), x.wish(3, 0, 1, 0), x.wish(LEAST, 0, 1, 0), x.wish(MOST, 0, 1, 0));
        dueAll("4 level", OUTSIDE, x.wish(0, -1, 1, 0), x.wish(0, 4, 1, 0), x.wish(0, LEAST, 1, 0), x.wish(0, MOST, 1, 0));
        dueAll("4 weight", OUTSIDE, x.wish(0, 0, 0, 0), x.wish(0, 0, 10, 0), x.wish(0, 0, -1, 0), x.wish(0, 0, LEAST, 0), x.wish(0, 0, MOST, 0));
        dueAll("4 number", OUTSIDE, x.wish(0, 0, 1, -1001), x.wish(0, 0, 1, 1001), x.wish(0, 0, 1, LEAST), x.wish(0, 0, 1, MOST));
        due("4 a must's weight has bounds too", x.wish(0, 0, 10, 0), OUTSIDE);
        due("4 none there", x.count(1), 0);
        dueFactors("4 factors stay", x, 2, 0, 0, 0, 0);
        due("4 then taken", x.wish(0, 0, 1, 0), 0);
    }

    private static void wishOfNoFactors() {
        PullAndPush x = new PullAndPush();
        due("4 no edges, no factors", x.wish(EQUAL, 0, 1, 0), STATE);
        x.edge(0);
        due("4 no factors", x.wish(EQUAL, 0, 1, 0), STATE);
        due("4 no factors, though 0 is at most 1000", x.wish(AT_MOST, 3, 9, 1000), STATE);
        x.factor(0, 1);
        x.factor(0, 0);
        due("4 taken back", x.wish(EQUAL, 1, 1, 0), STATE);
        due("4 none there", x.count(1), 0);
    }

    private static void wishOfAnEdgeThatIsNotThere() {
        PullAndPush x = new PullAndPush();
        for (int e = 0; e < 5; e++) {
            x.factor(e, -1);
            due("4 edge " + e + " is not there", x.wish(AT_MOST, 1, 1, 0), STATE);
            x.factor(0, 1);
            due("4 and another one", x.wish(AT_MOST, 1, 1, 0), STATE);
            due("4 factors stay", x.factor(e, 2), e == 0 ? 1 : -1);
            due("4 edge", x.edge(0), e);
            due("4 now it is there", x.wish(AT_MOST, 1, 1, 0), e);
            due("4 with what was told", x.told(e, 5 + e), 2);
        }
    }

    private static void wishesNineAtMost() {
        PullAndPush x = withEdges(0);
        for (int w = 0; w < 9; w++) due("4 wish", wish(x, AT_MOST, w % 4, 1, w, 1), w);
        dueAll("4 a tenth", FULL, wish(x, AT_MOST, 0, 1, 1, 1), wish(x, AT_MOST, 3, 9, 1, 1));
        x.hide(4, true);
        due("4 a hidden one is there", wish(x, AT_MOST, 1, 1, 1, 1), FULL);
        due("4 nine", x.count(1), 9);
        due("4 no wish 9", x.told(9, 0), UNKNOWN);
        x.take(4);
        due("4 one is free", wish(x, AT_MOST, 1, 1, 77, 1), 4);
        due("4 full again", wish(x, AT_MOST, 1, 1, 1, 1), FULL);
        due("4 the last one stays", x.told(4, 3), 77);
    }

    private static void wishLeastFreeNumber() {
        PullAndPush x = withEdges(0);
        addIdleWishes(x, 9);
        for (int w : new int[] {8, 0, 5, 3}) x.take(w);
        for (int w : new int[] {0, 3, 5, 8}) due("4 the least that is free", wish(x, AT_MOST, 1, 1, 1, 1), w);
        due("4 then full", wish(x, AT_MOST, 1, 1, 1, 1), FULL);
    }

    private static void wishFactorsBehindIt() {
        PullAndPush x = withEdges(0, 0, 0, 0, 0);
        due("4 taken", wish(x, AT_LEAST, 0, 1, 5, 1, 2, 3, -1, -2), 0);
        dueFactors("4 0 behind a wish", x, 0, 0, 0, 0, 0);
        due("4 clash", wish(x, AT_MOST, 0, 1, 4, 1, 2, 3, -1, -2), CLASH);
        dueFactors("4 0 behind a clash", x, 0, 0, 0, 0, 0);
        due("4 outside", wish(x, AT_MOST, 4, 1, 4, 1, 2, 3, -1, -2), OUTSIDE);
        dueFactors("4 as told behind outside", x, 1, 2, 3, -1, -2);
        addIdleWishes(x, 1);
        for (int w = 2; w < 9; w++) due("4 wish", wish(x, AT_MOST, 3, 1, 0, 1), w);
        due("4 full", wish(x, AT_MOST, 1, 1, 4, 1, 2, 3, -1, -2), FULL);
        dueFactors("4 0 behind full", x, 0, 0, 0, 0, 0);
    }

    private static void wishOrderOfRefusals() {
        PullAndPush x = withEdges(0);
        wish(x, EQUAL, 0, 1, 3, 1);
        addIdleWishes(x, 8);
        due("4 outside ahead of state and full", x.wish(3, 0, 1, 0), OUTSIDE);
        due("4 state ahead of full", x.wish(EQUAL, 0, 1, 0), STATE);
        x.factor(0, 1);
        x.factor(2, 1);
        due("4 state ahead of full", x.wish(EQUAL, 0, 1, 4), STATE);
        x.factor(2, 0);
        due("4 outside ahead of full and clash", x.wish(EQUAL, 0, 10, 4), OUTSIDE);
        due("4 full ahead of clash", x.wish(EQUAL, 0, 1, 4), FULL);
        due("4 full tells no quarrel", x.quarrel(), 0);
        x.take(5);
        x.factor(0, 1);
        x.factor(1, 1);
        due("4 state ahead of clash", x.wish(EQUAL, 0, 1, 4), STATE);
        x.factor(1, 0);
        due("4 outside ahead of clash", x.wish(EQUAL, 0, 1, 1001), OUTSIDE);
        due("4 no quarrel yet", x.quarrel(), 0);
        due("4 clash", x.wish(EQUAL, 0, 1, 4), CLASH);
        due("4 quarrel with the number it would have", x.quarrel(), 1 | 1 << 5);
    }

    private static void wishClashByOne() {
        PullAndPush x = withEdges(0);
        due("4 a must alone", wish(x, AT_LEAST, 0, 9, 1, 3), 0);
        due("4 it meets in one point", wish(x, AT_MOST, 0, 1, 1, 3), 1);
        dueAt("4 a third", x, 0, 1, 3);
        due("4 less by a sixth", wish(x, AT_LEAST, 0, 1, 1, 2), CLASH);
        due("4 its number is free still", wish(x, AT_MOST, 0, 1, 1, 2), 2);
        due("4 the same twice", wish(x, EQUAL, 0, 1, 1, 3), 3);
        due("4 the same the other way", wish(x, EQUAL, 0, 1, -1, -3), 4);
        due("4 not quite the other way", wish(x, EQUAL, 0, 1, 1, -3), CLASH);
        dueAt("4 a third still", x, 0, 1, 3);
        due("4 five", x.count(1), 5);
    }

    private static void wishesBelowMustsNeverClash() {
        PullAndPush x = withEdges(0);
        wish(x, EQUAL, 0, 1, 3, 1);
        for (int level = 1; level < 4; level++) due("4 against a must", wish(x, EQUAL, level, 9, -3, 1), level);
        for (int level = 1; level < 4; level++) due("4 against one another", wish(x, EQUAL, level, 9, 1000, 1), level + 3);
        dueAt("4 the must holds", x, 0, 3, 1);
        due("4 no quarrel", x.quarrel(), 0);
    }

    // ---- 5: side

    private static void sideGapBounds() {
        PullAndPush x = withEdges(0, 0, 0);
        due("5 least gap", x.side(0, 1, 2, 0, 0, 1), 0);
        due("5 number", x.told(0, 3), 0);
        dueAt("5 no gap", x, 2, 0, 1);
        x.take(0);
        due("5 greatest gap", x.side(0, 1, 2, 1000, 0, 1), 0);
        due("5 number", x.told(0, 3), -1000);
        dueAt("5 gap", x, 2, 1000, 1);
        dueAll("5 outside", OUTSIDE, x.side(0, 1, 2, -1, 3, 1), x.side(0, 1, 2, 1001, 3, 1), x.side(0, 1, 2, -1000, 3, 1), x.side(0, 1, 2, LEAST, 3, 1), x.side(0, 1, 2, MOST, 3, 1));
        due("5 one wish", x.count(1), 1);
    }

    private static void sideStrengthBounds() {
        PullAndPush x = withEdges(0, 0, 0);
        int w = 0;
        for (int level = 0; level < 4; level++) {
            for (int weight = 1; weight < 10; weight += 8) {
                due("5 side", x.side(0, 1, 2, 7, level, weight), w);
                dueTold("5 strength", x, w++, EQUAL, level, weight, -7, 0, 1, 1, -1, 0, 0);
            }
        }
        dueAll("5 level", OUTSIDE, x.side(0, 1, 2, 7, -1, 1), x.side(0, 1, 2, 7, 4, 1), x.side(0, 1, 2, 7, LEAST, 1), x.side(0, 1, 2, 7, MOST, 1));
        dueAll("5 weight", OUTSIDE, x.side(0, 1, 2, 7, 0, 0), x.side(0, 1, 2, 7, 0, 10), x.side(0, 1, 2, 7, 3, LEAST), x.side(0, 1, 2, 7, 3, MOST));
    }

    private static void sideEdgesUnknown() {
        PullAndPush none = new PullAndPush();
        due("5 no edges", none.side(0, 0, 0, 0, 1, 1), UNKNOWN);
        PullAndPush x = withEdges(0, 0, 0);
        for (int e : new int[] {-1, 3, 4, 5, LEAST, MOST}) {
            dueAll("5 edge " + e, UNKNOWN, x.side(e, 1, 2, 0, 1, 1), x.side(0, e, 2, 0, 1, 1), x.side(0, 1, e, 0, 1, 1), x.side(e, e, e, 0, 1, 1));
        }
        due("5 none there", x.count(1), 0);
        due("5 the last edge", x.side(2, 2, 2, 0, 1, 1), 0);
    }

    private static void sideEdgesAlike() {
        PullAndPush x = withEdges(0, 0, 0, 0, 0);
        x.side(1, 1, 2, 0, 1, 1);
        dueTold("5 left is the width", x, 0, 0, 1, 1, 0, 0, 0, 2, -1, 0, 0);
        x.side(1, 2, 1, 0, 1, 1);
        dueTold("5 both lefts", x, 1, 0, 1, 1, 0, 0, 0, 0, 1, 0, 0);
        x.side(2, 1, 1, 0, 1, 1);
        dueTold("5 width is the other left", x, 2, 0, 1, 1, 0, 0, 0, 0, 1, 0, 0);
        x.side(3, 3, 3, 0, 1, 1);
        dueTold("5 all alike", x, 3, 0, 1, 1, 0, 0, 0, 0, 0, 1, 0);
        x.side(4, 3, 0, 0, 1, 1);
        dueTold("5 none alike", x, 4, 0, 1, 1, 0, 0, -1, 0, 0, 1, 1);
    }

    private static void sideIsOfRelationEqual() {
        PullAndPush x = withEdges(0, 10, 900);
        x.side(0, 1, 2, 5, 1, 1);
        dueAt("5 from above", x, 2, 15, 1);
        x.move(2, -900);
        dueAt("5 from below", x, 2, 15, 1);
    }

    private static void sideOrderOfRefusals() {
        PullAndPush x = withEdges(0, 0, 0);
        x.side(0, 1, 2, 5, 0, 1);
        due("5 unknown ahead of outside", x.side(0, 1, 3, -1, 0, 1), UNKNOWN);
        due("5 unknown ahead of outside", x.side(-1, 1, 2, 0, 4, 0), UNKNOWN);
        due("5 outside ahead of clash", x.side(0, 1, 2, 6, 0, 10), OUTSIDE);
        due("5 no quarrel yet", x.quarrel(), 0);
        due("5 clash", x.side(0, 1, 2, 6, 0, 1), CLASH);
        due("5 quarrel", x.quarrel(), 3);
        addIdleWishes(x, 8);
        due("5 unknown ahead of full", x.side(0, 3, 2, 6, 1, 1), UNKNOWN);
        due("5 outside ahead of full", x.side(0, 1, 2, 1001, 1, 1), OUTSIDE);
        due("5 full ahead of clash", x.side(0, 1, 2, 6, 0, 1), FULL);
        due("5 full", x.side(0, 1, 2, 6, 1, 1), FULL);
        x.take(3);
        due("5 the least number that is free", x.side(0, 1, 2, 6, 1, 1), 3);
    }

    private static void sideLeavesFactors() {
        PullAndPush x = withEdges(0, 0, 0);
        for (int e = 0; e < 5; e++) x.factor(e, e - 2);
        due("5 taken", x.side(0, 1, 2, 5, 0, 1), 0);
        dueFactors("5 taken", x, -2, -1, 0, 1, 2);
        due("5 clash", x.side(0, 1, 2, 6, 0, 1), CLASH);
        dueFactors("5 clash", x, -2, -1, 0, 1, 2);
        dueAll("5 refused", OUTSIDE, x.side(0, 1, 2, 6, 4, 1));
        dueAll("5 refused", UNKNOWN, x.side(0, 1, 3, 6, 0, 1));
        dueFactors("5 refused", x, -2, -1, 0, 1, 2);
        for (int w = 1; w < 9; w++) due("5 taken", x.side(0, 1, 2, 5, 3, 1), w);
        due("5 full", x.side(0, 1, 2, 5, 3, 1), FULL);
        dueFactors("5 full", x, -2, -1, 0, 1, 2);
        dueTold("5 the factors told are not its own", x, 8, 0, 3, 1, -5, 0, 1, 1, -1, 0, 0);
    }
}
