import java.util.function.Supplier;
import java.util.function.ToLongFunction;
import java.util.function.UnaryOperator;

/** A call that is refused leaves every other answer as it was, whether or not the setting had been asked for before. */
public final class RefusalTest extends ByHand {
    public static void main(String[] args) {
        emptyObject();
        unknownNumbers();
        numbersOutside();
        states();
        fullObject();
        clashes();
        end("RefusalTest");
    }

    /** Three edges, factors told, a quarrel; musts, a hidden one that would quarrel among them, wishes met and not met. */
    private static PullAndPush busy() {
        PullAndPush x = new PullAndPush();
        for (int stay : new int[] {3, 50, 100000}) x.edge(stay);
        wish(x, EQUAL, 0, 1, 7, 2, 1);
        wish(x, EQUAL, 0, 2, 1, 0, 0, 3);
        x.hide(1, true);
        wish(x, EQUAL, 1, 3, 8, 3, 0, -2);
        wish(x, AT_LEAST, 2, 3, 5, 0, 1, 1);
        wish(x, AT_MOST, 3, 9, -1000, 1, 1);
        wish(x, EQUAL, 0, 1, 1000, 0, 0, 1);
        wish(x, AT_LEAST, 0, 1, 8, 2, 1);
        x.factor(0, 2);
        x.factor(2, -2);
        return x;
    }

    /** As many edges and wishes as there may be. */
    private static PullAndPush full() {
        PullAndPush x = busy();
        x.edge(-7);
        x.edge(8);
        for (int w = 6; w < 9; w++) x.side(3, w - 4, w - 6, w, w % 3 + 1, w - 3);
        return x;
    }

    /** Every answer there is, but that of calls that change something. */
    private static String picture(PullAndPush x) {
        StringBuilder s = new StringBuilder();
        s.append("quarrel ").append(x.quarrel());
        for (int e = 0; e < 5; e++) {
            int factor = x.factor(e, 0);
            x.factor(e, factor);
            s.append(" factor ").append(factor).append(" edge ").append(x.stay(e)).append(' ').append(x.at(e, 0)).append(' ').append(x.at(e, 1)).append(' ').append(x.pixel(e));
        }
        for (int w = 0; w < 9; w++) {
            s.append(" wish");
            for (int what = 0; what < 10; what++) s.append(' ').append(x.told(w, what));
            s.append(' ').append(x.off(w, 0)).append(' ').append(x.off(w, 1)).append(' ').append(x.why(w));
        }
        for (int level = 1; level < 4; level++) s.append(" cost ").append(x.cost(level, 0)).append(' ').append(x.cost(level, 1));
        for (int what = 0; what < 4; what++) s.append(" count ").append(x.count(what));
        return s.toString();
    }

    /** What may differ behind a call that is refused is made alike on both sides first. */
    private static void refused(String what, Supplier<PullAndPush> make, ToLongFunction<PullAndPush> call, long refusal, UnaryOperator<PullAndPush> alike) {
        for (int asked = 0; asked < 2; asked++) {
            PullAndPush x = make.get();
            PullAndPush y = make.get();
            if (asked == 1) x.at(0, 0);
            due(what, call.applyAsLong(x), refusal);
            String want = picture(alike.apply(y));
            String got = picture(alike.apply(x));
            due(what + ": changes nothing else (was " + want + ", is " + got + ")", got.equals(want) ? 1 : 0, 1);
        }
    }

    private static void inAll(String what, ToLongFunction<PullAndPush> call, long refusal) {
        inBusy(what, call, refusal);
        inFull(what, call, refusal);
    }

    private static void inBusy(String what, ToLongFunction<PullAndPush> call, long refusal) {
        refused(what + " (busy)", RefusalTest::busy, call, refusal, x -> x);
    }

    private static void inFull(String what, ToLongFunction<PullAndPush> call, long refusal) {
        refused(what + " (full)", RefusalTest::full, call, refusal, x -> x);
    }

    private static void inEmpty(String what, ToLongFunction<PullAndPush> call, long refusal) {
        refused(what + " (empty)", PullAndPush::new, call, refusal, x -> x);
    }

    private static void emptyObject() {
        inEmpty("edge", x -> x.edge(100001), OUTSIDE);
        inEmpty("factor", x -> x.factor(5, 1), OUTSIDE);
        inEmpty("wish", x -> x.wish(EQUAL, 0, 1, 0), STATE);
        inEmpty("side", x -> x.side(0, 0, 0, 0, 0, 1), UNKNOWN);
        inEmpty("take", x -> x.take(0), UNKNOWN);
        inEmpty("hide", x -> x.hide(0, true), UNKNOWN);
        inEmpty("drag", x -> x.drag(0, 0), UNKNOWN);
        inEmpty("strength", x -> x.strength(0, 0, 1), UNKNOWN);
        inEmpty("move", x -> x.move(0, 0), UNKNOWN);
    }

    private static void unknownNumbers() {
        for (int n : new int[] {-1, 9, LEAST, MOST}) {
            inAll("side", x -> x.side(n, 0, 1, 0, 0, 1), UNKNOWN);
            inAll("side", x -> x.side(0, n, 1, 0, 0, 1), UNKNOWN);
            inAll("side", x -> x.side(0, 1, n, 0, 0, 1), UNKNOWN);
            inAll("take", x -> x.take(n), UNKNOWN);
            inAll("hide", x -> x.hide(n, true), UNKNOWN);
            inAll("show", x -> x.hide(n, false), UNKNOWN);
            inAll("drag", x -> x.drag(n, 1), UNKNOWN);
            inAll("strength", x -> x.strength(n, 1, 1), UNKNOWN);
            inAll("told", x -> x.told(n, 0), UNKNOWN);
            inAll("at", x -> x.at(n, 0), UNKNOWN);
            inAll("pixel", x -> x.pixel(n), UNKNOWN);
            inAll("off", x -> x.off(n, 0), UNKNOWN);
            inAll("why", x -> x.why(n), UNKNOWN);
            inAll("stay", x -> x.stay(n), UNKNOWN);
            inAll("move", x -> x.move(n, 1), UNKNOWN);
        }
    }

    private static void numbersOutside() {
        for (int n : new int[] {100001, -100001, LEAST, MOST}) {
            inAll("edge", x -> x.edge(n), OUTSIDE);
            inAll("factor", x -> x.factor(n, 0), OUTSIDE);
            inAll("factor", x -> x.factor(0, n), OUTSIDE);
            inAll("wish", x -> x.wish(n, 0, 1, 9), OUTSIDE);
            inAll("wish", x -> x.wish(0, n, 1, 9), OUTSIDE);
            inAll("wish", x -> x.wish(0, 0, n, 9), OUTSIDE);
            inAll("wish", x -> x.wish(0, 0, 1, n), OUTSIDE);
            inAll("side", x -> x.side(0, 1, 2, n, 0, 1), OUTSIDE);
            inAll("side", x -> x.side(0, 1, 2, 0, n, 1), OUTSIDE);
            inAll("side", x -> x.side(0, 1, 2, 0, 0, n), OUTSIDE);
            inAll("drag", x -> x.drag(0, n), OUTSIDE);
            inAll("strength", x -> x.strength(2, n, 1), OUTSIDE);
            inAll("strength", x -> x.strength(2, 0, n), OUTSIDE);
            inAll("told", x -> x.told(0, n), OUTSIDE);
            inAll("count", x -> x.count(n), OUTSIDE);
            inAll("at", x -> x.at(0, n), OUTSIDE);
            inAll("off", x -> x.off(0, n), OUTSIDE);
            inAll("cost", x -> x.cost(n, 0), OUTSIDE);
            inAll("cost", x -> x.cost(1, n), OUTSIDE);
            inAll("move", x -> x.move(0, n), OUTSIDE);
        }
    }

    private static PullAndPush withoutFactors(PullAndPush x) {
        for (int e = 0; e < 5; e++) x.factor(e, 0);
        return x;
    }

    private static PullAndPush withFactorOfEdge4(PullAndPush x) {
        x.factor(4, 1);
        return x;
    }

    /** Edge 2 is one more than the greatest stay; edge 0 would be drawn elsewhere too. */
    private static PullAndPush drawnOutside() {
        PullAndPush x = new PullAndPush();
        for (int stay : new int[] {5, 100000, -9}) x.edge(stay);
        wish(x, EQUAL, 1, 1, 13, 2);
        wish(x, AT_LEAST, 0, 1, 1, 0, -1, 1);
        x.factor(1, 2);
        return x;
    }

    private static void states() {
        refused("wish of no factors", () -> withoutFactors(busy()), x -> x.wish(EQUAL, 0, 1, 9), STATE, x -> x);
        refused("wish of no factors, full", () -> withoutFactors(full()), x -> x.wish(EQUAL, 0, 1, 9), STATE, x -> x);
        refused("wish of an edge that is not there", () -> withFactorOfEdge4(busy()), x -> x.wish(EQUAL, 0, 1, 9), STATE, x -> x);
        refused("settle outside", RefusalTest::drawnOutside, PullAndPush::settle, STATE, x -> x);
    }

    private static void fullObject() {
        inFull("edge", x -> x.edge(0), FULL);
        refused("wish, that would be met", RefusalTest::full, x -> x.wish(AT_MOST, 3, 1, 1000), FULL, RefusalTest::withoutFactors);
        refused("wish, that would clash", RefusalTest::twoMustsAndSeven, x -> wish(x, EQUAL, 0, 1, 6, 1), FULL, RefusalTest::withoutFactors);
        inFull("side", x -> x.side(0, 1, 2, 0, 3, 1), FULL);
        refused("side, that would clash", RefusalTest::twoMustsAndSeven, x -> x.side(0, 0, 0, 6, 0, 1), FULL, x -> x);
    }

    private static PullAndPush twoMustsAndSeven() {
        PullAndPush x = new PullAndPush();
        x.edge(0);
        wish(x, EQUAL, 0, 1, 5, 1);
        wish(x, AT_MOST, 0, 1, 5, 1);
        addIdleWishes(x, 7);
        return x;
    }

    /** Both sides come to the same latest quarrel. */
    private static PullAndPush withQuarrel(PullAndPush x) {
        due("a clash", x.drag(0, -1000), CLASH);
        return x;
    }

    private static PullAndPush withQuarrelAndNoFactors(PullAndPush x) {
        return withoutFactors(withQuarrel(x));
    }

    /** Edge 0 is at least 5 and at most 6; wish 2 is a hidden must of 7, wish 3 a weaker one of 4. */
    private static PullAndPush narrow() {
        PullAndPush x = new PullAndPush();
        x.edge(0);
        x.edge(9);
        wish(x, AT_MOST, 0, 1, 12, 2);
        wish(x, AT_LEAST, 0, 1, 5, 1);
        wish(x, EQUAL, 0, 1, 6, 1);
        x.hide(2, true);
        x.drag(2, 7);
        wish(x, EQUAL, 1, 4, 4, 1, 0);
        x.factor(0, 1);
        x.factor(1, 0);
        return x;
    }

    private static void clashes() {
        refused("wish", RefusalTest::narrow, x -> x.wish(AT_LEAST, 0, 1, 7), CLASH, RefusalTest::withQuarrelAndNoFactors);
        refused("side", RefusalTest::narrow, x -> x.side(0, 0, 0, 7, 0, 1), CLASH, RefusalTest::withQuarrel);
        refused("hide", RefusalTest::narrow, x -> x.hide(2, false), CLASH, RefusalTest::withQuarrel);
        refused("drag", RefusalTest::narrow, x -> x.drag(1, 7), CLASH, RefusalTest::withQuarrel);
        refused("strength", RefusalTest::narrow, x -> x.strength(3, 0, 9), CLASH, RefusalTest::withQuarrel);
    }
}
