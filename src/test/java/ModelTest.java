import java.util.Random;

/** Random runs of calls, every answer compared with the plain model's. */
public final class ModelTest {
    private static final int RUNS = 1500;
    private static final int WILD_RUNS = 80;
    /** An object is promised for 512 calls: behind so many there is room for a last look around. */
    private static final int CALLS_BOUND = 400;

    private static int wrong = 0;
    private static long calls = 0;

    private final Random random;
    private final PullAndPush real = new PullAndPush();
    private final PlainModel model = new PlainModel();
    private final StringBuilder run = new StringBuilder();
    private final int stayRange;
    private final int numberRange;
    private final int factorRange;
    private final int mustShare;
    private final int mostEdges;
    private final boolean wild;
    /** Stays, numbers and factors stand at their bounds more often than not. */
    private final boolean steep;
    private int ownCalls;

    private ModelTest(long seed, boolean wild) {
        random = new Random(seed);
        this.wild = wild;
        steep = random.nextInt(4) == 0;
        stayRange = pick(3, 50, 5000, 100000);
        numberRange = pick(0, 2, 10, 1000);
        factorRange = pick(1, 1, 2, 3);
        mustShare = pick(5, 20, 40, 70);
        mostEdges = pick(1, 2, 3, 4, 5, 5, 5);
    }

    public static void main(String[] args) {
        int runs = args.length > 0 ? Integer.parseInt(args[0]) : RUNS;
        long first = args.length > 1 ? Long.parseLong(args[1]) : 0;
        for (long seed = first; seed < first + runs && wrong < 5; seed++) {
            new ModelTest(seed, false).play(60);
        }
        for (long seed = first; seed < first + WILD_RUNS && wrong < 5; seed++) {
            new ModelTest(seed, true).play(CALLS_BOUND);
        }
        System.out.println("ModelTest: " + calls + " calls, " + wrong + " wrong");
        if (wrong != 0) System.exit(1);
    }

    private void play(int length) {
        if (!wild) {
            for (int e = 0; e < mostEdges; e++) {
                int stay = between(stayRange);
                due("edge(" + stay + ")", real.edge(stay), model.edge(stay));
            }
            int many = random.nextInt(9);
            for (int i = 0; i < many; i++) makeWish();
        }
        for (int i = 0; i < length && ownCalls < CALLS_BOUND && wrong < 5; i++) step();
        lookAround();
    }

    private void step() {
        switch (random.nextInt(20)) {
            case 0: makeEdge(); break;
            case 1: { int e = someEdge(), f = some(between(3)); due("factor(" + e + ", " + f + ")", real.factor(e, f), model.factor(e, f)); break; }
            case 2: case 3: case 4: makeWish(); break;
            case 5: makeSide(); break;
            case 6: if (random.nextInt(2) == 0) { int w = someWish(); due("take(" + w + ")", real.take(w), model.take(w)); } break;
            case 7: { int w = someWish(); boolean on = random.nextInt(3) == 0; due("hide(" + w + ", " + on + ")", real.hide(w, on), model.hide(w, on)); break; }
            case 8: case 9: { int w = someWish(), v = some(between(numberRange)); due("drag(" + w + ", " + v + ")", real.drag(w, v), model.drag(w, v)); break; }
            case 10: { int w = someWish(), l = some(someLevel()), g = some(1 + random.nextInt(9)); due("strength(" + w + ", " + l + ", " + g + ")", real.strength(w, l, g), model.strength(w, l, g)); break; }
            case 11: { int w = someWish(), what = some(random.nextInt(10)); due("told(" + w + ", " + what + ")", real.told(w, what), model.told(w, what)); break; }
            case 12: { int what = some(random.nextInt(4)); due("count(" + what + ")", real.count(what), model.count(what)); break; }
            case 13: { int e = someEdge(), what = some(random.nextInt(2)); due("at(" + e + ", " + what + ")", real.at(e, what), model.at(e, what)); break; }
            case 14: { int e = someEdge(); due("pixel(" + e + ")", real.pixel(e), model.pixel(e)); break; }
            case 15: { int w = someWish(), what = some(random.nextInt(2)); due("off(" + w + ", " + what + ")", real.off(w, what), model.off(w, what)); break; }
            case 16: { int l = some(1 + random.nextInt(3)), what = some(random.nextInt(2)); due("cost(" + l + ", " + what + ")", real.cost(l, what), model.cost(l, what)); break; }
            case 17: { int w = someWish(); due("why(" + w + ")", real.why(w), model.why(w)); break; }
            case 18: { int e = someEdge(), v = some(between(stayRange)); due("move(" + e + ", " + v + ")", real.move(e, v), model.move(e, v)); break; }
            default: if (ownCalls < CALLS_BOUND / 2 && random.nextInt(4) == 0) lookAround();
                else if (random.nextInt(3) == 0) due("settle()", real.settle(), model.settle());
        }
        due("quarrel()", real.quarrel(), model.quarrel());
    }

    private void lookAround() {
        for (int e = 0; e < 6; e++) {
            due("at(" + e + ", 0)", real.at(e, 0), model.at(e, 0));
            due("at(" + e + ", 1)", real.at(e, 1), model.at(e, 1));
            due("stay(" + e + ")", real.stay(e), model.stay(e));
        }
        for (int w = 0; w < 10; w++) {
            due("off(" + w + ", 0)", real.off(w, 0), model.off(w, 0));
            due("off(" + w + ", 1)", real.off(w, 1), model.off(w, 1));
            due("told(" + w + ", 3)", real.told(w, 3), model.told(w, 3));
            due("why(" + w + ")", real.why(w), model.why(w));
        }
        for (int what = 0; what < 4; what++) due("count(" + what + ")", real.count(what), model.count(what));
        for (int l = 1; l < 4; l++) due("cost(" + l + ", 0)", real.cost(l, 0), model.cost(l, 0));
    }

    private void makeEdge() {
        int stay = some(between(stayRange));
        if (wild || model.count(0) < mostEdges) due("edge(" + stay + ")", real.edge(stay), model.edge(stay));
    }

    private void makeWish() {
        int top = wild && random.nextInt(4) == 0 ? 5 : model.count(0);
        for (int e = 0; e < top; e++) {
            int f = random.nextInt(3) == 0 ? 0 : between(factorRange);
            due("factor(" + e + ", " + f + ")", real.factor(e, f), model.factor(e, f));
        }
        int r = some(random.nextInt(3)), l = some(someLevel()), g = some(1 + random.nextInt(9)), n = some(between(numberRange));
        due("wish(" + r + ", " + l + ", " + g + ", " + n + ")", real.wish(r, l, g, n), model.wish(r, l, g, n));
    }

    private void makeSide() {
        int a = someEdge(), b = someEdge(), c = someEdge();
        int gap = some(random.nextInt(numberRange + 1)), l = some(someLevel()), g = some(1 + random.nextInt(9));
        due("side(" + a + ", " + b + ", " + c + ", " + gap + ", " + l + ", " + g + ")", real.side(a, b, c, gap, l, g), model.side(a, b, c, gap, l, g));
    }

    private int someLevel() {
        return random.nextInt(100) < mustShare ? 0 : 1 + random.nextInt(3);
    }

    private int someEdge() {
        return some(random.nextInt(Math.max(1, model.count(0))));
    }

    private int someWish() {
        return some(random.nextInt(9));
    }

    /** In wild runs now and then a number from anywhere, or just beside the one that is due. */
    private int some(int number) {
        if (!wild || random.nextInt(12) != 0) return number;
        return pick(Integer.MIN_VALUE, Integer.MAX_VALUE, -1, 0, 5, 9, 10, 1000, 1001, -1000, -1001, 100000, 100001, -100000, -100001, random.nextInt());
    }

    private int pick(int... from) {
        return from[random.nextInt(from.length)];
    }

    private int between(int range) {
        if (steep && random.nextInt(4) != 0) return random.nextBoolean() ? range : -range;
        return random.nextInt(2 * range + 1) - range;
    }

    private void due(String call, long got, long want) {
        calls++;
        ownCalls++;
        run.append(call).append(" -> ").append(want).append('\n');
        if (got != want) {
            wrong++;
            System.out.println(run + "... " + call + " answered " + got + ", due is " + want);
        }
    }
}
