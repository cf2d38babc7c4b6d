/** Promises 18 to 20: a test for each sentence that names a boundary of stays. */
public final class StayBoundaryTest extends ByHand {
    public static void main(String[] args) {
        stayUnknown();
        stayIsNotThePlace();
        moveBounds();
        moveUnknown();
        moveToWhereItIs();
        moveAgainstWishes();
        settleNoEdges();
        settleNothing();
        settleAll();
        settleAtOnce();
        settleAtTheGreatest();
        settleAtTheLeast();
        settleRefusedByOne();
        settleSeesTheChange();
        settleLeavesTheRest();
        end("StayBoundaryTest");
    }

    // ---- 18: stay

    private static void stayUnknown() {
        PullAndPush x = new PullAndPush();
        for (int e = 0; e < 5; e++) {
            due("18 not made yet", x.stay(e), UNKNOWN);
            x.edge(-e);
            due("18 made", x.stay(e), -e);
        }
        for (int e : NO_EDGE) due("18 stay(" + e + ")", x.stay(e), UNKNOWN);
    }

    private static void stayIsNotThePlace() {
        PullAndPush x = withEdges(-1, 100000);
        wish(x, EQUAL, 0, 1, 7, 1);
        wish(x, EQUAL, 0, 1, 8, 0, 1);
        due("18 as NONE is", x.stay(0), PullAndPush.NONE);
        due("18 at the bound", x.stay(1), 100000);
        dueAt("18 the place is another", x, 0, 7, 1);
        due("18 nor does asking change it", x.stay(0), -1);
        x.settle();
        due("18 settled", x.stay(0), 7);
    }

    // ---- 19: move

    private static void moveBounds() {
        PullAndPush x = withEdges(5, 0, 0, 0, 6);
        due("19 greatest", x.move(4, 100000), 6);
        dueAt("19 greatest", x, 4, 100000, 1);
        due("19 least", x.move(4, -100000), 100000);
        dueAt("19 least", x, 4, -100000, 1);
        dueAll("19 outside", OUTSIDE, x.move(4, 100001), x.move(4, -100001), x.move(4, LEAST), x.move(4, LEAST + 1), x.move(4, MOST));
        due("19 as it was", x.stay(4), -100000);
        dueAt("19 as it was", x, 4, -100000, 1);
        due("19 no other one", x.stay(0), 5);
    }

    private static void moveUnknown() {
        PullAndPush x = withEdges(5);
        for (int e : NO_EDGE) dueAll("19 move(" + e + ", ..)", UNKNOWN, x.move(e, 0), x.move(e, 100001), x.move(e, LEAST));
        dueAll("19 not made yet", UNKNOWN, x.move(1, 0), x.move(1, -100001));
        due("19 no edges", new PullAndPush().move(0, 0), UNKNOWN);
        due("19 one edge", x.count(0), 1);
    }

    private static void moveToWhereItIs() {
        PullAndPush x = withEdges(5);
        dueAll("19 what it was", 5, x.move(0, 5), x.move(0, 5), x.stay(0));
        dueAt("19 as it was", x, 0, 5, 1);
    }

    private static void moveAgainstWishes() {
        PullAndPush x = withEdges(5);
        wish(x, AT_MOST, 0, 1, 15, 2);
        dueAt("19 within", x, 0, 5, 1);
        due("19 beyond", x.move(0, 8), 5);
        due("19 the stay is beyond", x.stay(0), 8);
        dueAt("19 the edge is not", x, 0, 15, 2);
        due("19 to the border", x.move(0, 7), 8);
        dueAt("19 to the border", x, 0, 7, 1);
    }

    // ---- 20: settle

    private static void settleNoEdges() {
        PullAndPush x = new PullAndPush();
        due("20 no edges", x.settle(), 0);
        x.edge(4);
        due("20 at its stay", x.settle(), 0);
    }

    private static void settleNothing() {
        PullAndPush x = withEdges(-100000, 100000, 0);
        due("20 all at their stays, at the bounds too", x.settle(), 0);
        wish(x, EQUAL, 0, 1, 1, 0, 0, 3);
        dueAt("20 a third", x, 2, 1, 3);
        due("20 drawn at its stay", x.settle(), 0);
        dueAt("20 a third still", x, 2, 1, 3);
    }

    private static void settleAll() {
        PullAndPush x = withEdges(0, 0, 0, 0, 0);
        int[] twice = {1, -1, 3, -3, 1000};
        int[] pixels = {1, 0, 2, -1, 500};
        for (int e = 0; e < 5; e++) {
            x.factor(e, 2);
            x.wish(EQUAL, 0, 1, twice[e]);
        }
        due("20 all but -1/2, whose pixel is 0", x.settle(), 4);
        for (int e = 0; e < 5; e++) due("20 stay " + e, x.stay(e), pixels[e]);
        due("20 none any more", x.settle(), 0);
    }

    /** Edge 0 is 1/2 and edge 1 is -1/2; with edge 0 at its new stay edge 1 would be -1. */
    private static void settleAtOnce() {
        PullAndPush x = withEdges(0, 0);
        wish(x, AT_LEAST, 0, 1, 1, 2);
        wish(x, EQUAL, 0, 1, 0, 1, 1);
        due("20 one became another", x.settle(), 1);
        due("20 edge 0", x.stay(0), 1);
        due("20 edge 1 as it was drawn", x.stay(1), 0);
        dueAt("20 the setting of the new stays", x, 1, -1, 1);
        due("20 which is drawn elsewhere", x.settle(), 1);
        due("20 edge 1", x.stay(1), -1);
    }

    /** Edge 1 is edge 0 and some sixths more: wish 0 is 3 * edge 1 - 3 * edge 0, wish 1 twice that difference. */
    private static PullAndPush nearTheBound(int stay) {
        PullAndPush x = withEdges(stay, 0);
        wish(x, EQUAL, 0, 1, 0, -3, 3);
        wish(x, EQUAL, 0, 1, 0, -2, 2);
        x.hide(1, true);
        return x;
    }

    private static void settleAtTheGreatest() {
        PullAndPush x = nearTheBound(100000);
        due("20 100000", x.settle(), 1);
        x.move(1, 0);
        x.drag(0, 1);
        due("20 100000 and a third", x.settle(), 1);
        due("20 is drawn at 100000", x.stay(1), 100000);
        x.drag(0, 2);
        due("20 100000 and two thirds", x.settle(), STATE);
        x.hide(0, true);
        x.drag(1, 1);
        x.hide(1, false);
        dueAt("20 100000 and a half", x, 1, 200001, 2);
        due("20 is drawn at 100001", x.pixel(1), 100001);
        due("20 which is outside", x.settle(), STATE);
    }

    private static void settleAtTheLeast() {
        PullAndPush x = nearTheBound(-100000);
        due("20 -100000", x.settle(), 1);
        x.move(1, 0);
        x.drag(0, -1);
        due("20 -100000 and a third less", x.settle(), 1);
        due("20 is drawn at -100000", x.stay(1), -100000);
        x.drag(0, -2);
        due("20 -100000 and two thirds less", x.settle(), STATE);
        x.hide(0, true);
        x.drag(1, -1);
        x.hide(1, false);
        dueAt("20 -100000 and a half less", x, 1, -200001, 2);
        x.move(1, 0);
        due("20 is drawn at -100000", x.settle(), 1);
        due("20 at the bound", x.stay(1), -100000);
        x.drag(1, -3);
        due("20 one less is outside", x.settle(), STATE);
    }

    /** Whichever edge it is that is drawn outside, no stay becomes another. */
    private static void settleRefusedByOne() {
        for (int out = 1; out < 5; out++) {
            PullAndPush x = withEdges(100000, 1, 2, 3, 4);
            x.factor(out, 1);
            x.factor(0, -1);
            x.wish(EQUAL, 0, 1, 1);
            int inside = out == 1 ? 2 : 1;
            x.factor(inside, 1);
            x.wish(EQUAL, 0, 1, 50);
            due("20 edge " + out + " is outside", x.settle(), STATE);
            for (int e = 1; e < 5; e++) due("20 stay as it was", x.stay(e), e);
            due("20 stay as it was", x.stay(0), 100000);
            x.drag(0, 0);
            due("20 inside again", x.settle(), 2);
            due("20 settled", x.stay(inside), 50);
            due("20 settled", x.stay(out), 100000);
        }
    }

    private static void settleSeesTheChange() {
        PullAndPush x = withEdges(0);
        wish(x, EQUAL, 0, 1, 4, 1);
        due("20 at 4", x.settle(), 1);
        x.drag(0, 6);
        due("20 at 6", x.settle(), 1);
        due("20 at 6", x.stay(0), 6);
        x.take(0);
        x.move(0, 8);
        due("20 at its stay", x.settle(), 0);
        due("20 at its stay", x.stay(0), 8);
    }

    private static void settleLeavesTheRest() {
        PullAndPush x = withEdges(0);
        wish(x, EQUAL, 0, 1, 7, 2);
        wish(x, EQUAL, 1, 2, 9, 2);
        x.hide(1, true);
        due("20 clash", wish(x, EQUAL, 0, 1, 8, 2), CLASH);
        x.factor(0, 3);
        due("20 settle", x.settle(), 1);
        dueTold("20 wishes", x, 0, 0, 0, 1, 7, 0, 2);
        dueTold("20 wishes", x, 1, 0, 1, 2, 9, 1, 2);
        due("20 quarrel", x.quarrel(), 1 | 1 << 2);
        dueFactors("20 factors", x, 3, 0, 0, 0, 0);
        dueAt("20 the must", x, 0, 7, 2);
    }
}
