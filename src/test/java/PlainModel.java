/**
 * What the document says, told in the slowest and plainest way, to compare PullAndPush with: the setting is
 * sought among ALL points where as many lines (a wish's number, an edge's stay) cross as there are edges.
 * Why that is enough: costs are straight between these lines, so the least is at such a crossing.
 */
final class PlainModel {
    static final int UNKNOWN = -2000000001, OUTSIDE = -2000000002, STATE = -2000000003, FULL = -2000000004, CLASH = -2000000005;

    private final boolean[] there = new boolean[9];
    private final boolean[] hidden = new boolean[9];
    private final int[] relation = new int[9];
    private final int[] level = new int[9];
    private final int[] weight = new int[9];
    private final int[] number = new int[9];
    private final int[][] factors = new int[9][5];
    private final int[] stays = new int[5];
    private final int[] next = new int[5];
    private int edges;
    private int quarrel;

    /** The edges of one crossing: upper[e] / lower. */
    private static final class Point {
        final long[] upper = new long[5];
        long lower;
        long[] costs;
    }

    private Point known;

    int edge(int stay) {
        if (Math.abs((long) stay) > 100000) return OUTSIDE;
        if (edges == 5) return FULL;
        known = null;
        stays[edges] = stay;
        return edges++;
    }

    int factor(int e, int f) {
        if (e < 0 || e > 4 || f < -3 || f > 3) return OUTSIDE;
        int was = next[e];
        next[e] = f;
        return was;
    }

    int wish(int r, int l, int wt, int n) {
        if (r < 0 || r > 2 || badStrength(l, wt) || n < -1000 || n > 1000) return OUTSIDE;
        boolean some = false;
        for (int e = 0; e < 5; e++) {
            if (next[e] != 0) {
                some = true;
                if (e >= edges) return STATE;
            }
        }
        if (!some) return STATE;
        int answer = add(next.clone(), r, l, wt, n);
        for (int e = 0; e < 5; e++) next[e] = 0;
        return answer;
    }

    int side(int a, int b, int c, int gap, int l, int wt) {
        if (noEdge(a) || noEdge(b) || noEdge(c)) return UNKNOWN;
        if (gap < 0 || gap > 1000 || badStrength(l, wt)) return OUTSIDE;
        int[] f = new int[5];
        f[a] += 1;
        f[b] += 1;
        f[c] -= 1;
        return add(f, 0, l, wt, -gap);
    }

    private int add(int[] f, int r, int l, int wt, int n) {
        int w = 0;
        while (w < 9 && there[w]) w++;
        if (w == 9) return FULL;
        there[w] = true;
        hidden[w] = false;
        relation[w] = r;
        level[w] = l;
        weight[w] = wt;
        number[w] = n;
        factors[w] = f;
        if (quarrels()) {
            there[w] = false;
            return CLASH;
        }
        known = null;
        return w;
    }

    int take(int w) {
        if (noWish(w)) return UNKNOWN;
        known = null;
        there[w] = false;
        return count(1);
    }

    int hide(int w, boolean on) {
        if (noWish(w)) return UNKNOWN;
        boolean was = hidden[w];
        hidden[w] = on;
        if (quarrels()) {
            hidden[w] = was;
            return CLASH;
        }
        known = null;
        return was ? 1 : 0;
    }

    int drag(int w, int v) {
        if (noWish(w)) return UNKNOWN;
        if (v < -1000 || v > 1000) return OUTSIDE;
        int was = number[w];
        number[w] = v;
        if (quarrels()) {
            number[w] = was;
            return CLASH;
        }
        known = null;
        return was;
    }

    int strength(int w, int l, int wt) {
        if (noWish(w)) return UNKNOWN;
        if (badStrength(l, wt)) return OUTSIDE;
        int wasLevel = level[w];
        int wasWeight = weight[w];
        level[w] = l;
        weight[w] = wt;
        if (quarrels()) {
            level[w] = wasLevel;
            weight[w] = wasWeight;
            return CLASH;
        }
        known = null;
        return 1;
    }

    int told(int w, int what) {
        if (noWish(w)) return UNKNOWN;
        if (what < 0 || what > 9) return OUTSIDE;
        if (what >= 5) return factors[w][what - 5];
        return new int[] {relation[w], level[w], weight[w], number[w], hidden[w] ? 1 : 0}[what];
    }

    int count(int what) {
        if (what < 0 || what > 3) return OUTSIDE;
        if (what == 0) return edges;
        int sum = 0;
        for (int w = 0; w < 9; w++) {
            if (!there[w]) continue;
            if (what == 1) sum++;
            if (what == 2 && !hidden[w] && level[w] == 0) sum++;
            if (what == 3 && !hidden[w] && off(setting(), w) != 0) sum++;
        }
        return sum;
    }

    int quarrel() {
        return quarrel;
    }

    int at(int e, int what) {
        if (noEdge(e)) return UNKNOWN;
        if (what < 0 || what > 1) return OUTSIDE;
        return Math.toIntExact(part(setting().upper[e], setting().lower, what));
    }

    int pixel(int e) {
        if (noEdge(e)) return UNKNOWN;
        return Math.toIntExact(pixelOf(e));
    }

    long off(int w, int what) {
        if (noWish(w)) return UNKNOWN;
        if (what < 0 || what > 1) return OUTSIDE;
        return part(off(setting(), w), setting().lower, what);
    }

    long cost(int l, int what) {
        if (l < 1 || l > 3 || what < 0 || what > 1) return OUTSIDE;
        long sum = 0;
        for (int w = 0; w < 9; w++) {
            if (there[w] && !hidden[w] && level[w] == l) sum += weight[w] * off(setting(), w);
        }
        return part(sum, setting().lower, what);
    }

    int why(int w) {
        if (noWish(w)) return UNKNOWN;
        if (hidden[w] || off(setting(), w) == 0) return 0;
        Point now = setting();
        int bits = 0;
        for (int v = 0; v < 9; v++) {
            if (v == w || !there[v] || hidden[v] || level[v] > level[w]) continue;
            there[v] = false;
            Point without = best(mask(3));
            there[v] = true;
            if (Math.multiplyExact(off(without, w), now.lower) < Math.multiplyExact(off(now, w), without.lower)) bits |= 1 << v;
        }
        return bits;
    }

    int stay(int e) {
        return noEdge(e) ? UNKNOWN : stays[e];
    }

    int move(int e, int v) {
        if (noEdge(e)) return UNKNOWN;
        if (Math.abs((long) v) > 100000) return OUTSIDE;
        int was = stays[e];
        stays[e] = v;
        known = null;
        return was;
    }

    int settle() {
        long[] pixels = new long[edges];
        for (int e = 0; e < edges; e++) {
            pixels[e] = pixelOf(e);
            if (Math.abs(pixels[e]) > 100000) return STATE;
        }
        int changed = 0;
        for (int e = 0; e < edges; e++) {
            if (stays[e] != pixels[e]) changed++;
            stays[e] = (int) pixels[e];
        }
        known = null;
        return changed;
    }

    private boolean noEdge(int e) {
        return e < 0 || e >= edges;
    }

    private boolean noWish(int w) {
        return w < 0 || w > 8 || !there[w];
    }

    private static boolean badStrength(int l, int wt) {
        return l < 0 || l > 3 || wt < 1 || wt > 9;
    }

    private long pixelOf(int e) {
        return Math.floorDiv(2 * setting().upper[e] + setting().lower, 2 * setting().lower);
    }

    private static long part(long upper, long lower, int what) {
        long a = Math.abs(upper);
        long b = lower;
        while (b != 0) {
            long c = a % b;
            a = b;
            b = c;
        }
        return (what == 0 ? upper : lower) / a;
    }

    /** Wishes that count, up to a level. */
    private int mask(int upTo) {
        int bits = 0;
        for (int w = 0; w < 9; w++) {
            if (there[w] && !hidden[w] && level[w] <= upTo) bits |= 1 << w;
        }
        return bits;
    }

    private boolean quarrels() {
        int left = mask(0);
        if (best(left).costs[0] == 0) return false;
        for (int w = 0; w < 9; w++) {
            int others = left & ~(1 << w);
            if (others != left && best(others).costs[0] != 0) left = others;
        }
        quarrel = left;
        return true;
    }

    private Point setting() {
        if (known == null) known = best(mask(3));
        return known;
    }

    private long off(Point p, int w) {
        long sum = -number[w] * p.lower;
        for (int e = 0; e < edges; e++) sum = Math.addExact(sum, Math.multiplyExact(factors[w][e], p.upper[e]));
        if (relation[w] == 0) return Math.abs(sum);
        return relation[w] == 1 ? Math.max(sum, 0) : Math.max(-sum, 0);
    }

    private Point best(int mask) {
        int lines = Integer.bitCount(mask) + edges;
        Point best = null;
        for (int set = 0; set < 1 << lines; set++) {
            if (Integer.bitCount(set) != edges) continue;
            Point p = crossing(mask, set);
            if (p == null) continue;
            p.costs = costs(p, mask);
            if (best == null || isLess(p, best)) best = p;
        }
        return best;
    }

    private static boolean isLess(Point p, Point q) {
        for (int l = 0; l < p.costs.length; l++) {
            int order = Long.compare(Math.multiplyExact(p.costs[l], q.lower), Math.multiplyExact(q.costs[l], p.lower));
            if (order != 0) return order < 0;
        }
        return false;
    }

    private long[] costs(Point p, int mask) {
        long[] costs = new long[4 + edges];
        for (int w = 0; w < 9; w++) {
            if ((mask >> w & 1) == 1) costs[level[w]] = Math.addExact(costs[level[w]], weight[w] * off(p, w));
        }
        for (int e = 0; e < edges; e++) costs[4 + e] = Math.abs(p.upper[e] - stays[e] * p.lower);
        return costs;
    }

    private Point crossing(int mask, int set) {
        long[][] a = new long[edges][edges + 1];
        int rows = 0;
        int line = 0;
        for (int w = 0; w < 9; w++) {
            if ((mask >> w & 1) == 0) continue;
            if ((set >> line++ & 1) == 0) continue;
            for (int e = 0; e < edges; e++) a[rows][e] = factors[w][e];
            a[rows++][edges] = number[w];
        }
        for (int e = 0; e < edges; e++) {
            if ((set >> line++ & 1) == 0) continue;
            a[rows][e] = 1;
            a[rows++][edges] = stays[e];
        }
        return solved(a);
    }

    private Point solved(long[][] a) {
        long before = 1;
        for (int k = 0; k < edges; k++) {
            int pick = k;
            while (pick < edges && a[pick][k] == 0) pick++;
            if (pick == edges) return null;
            long[] swap = a[k];
            a[k] = a[pick];
            a[pick] = swap;
            for (int i = 0; i < edges; i++) {
                if (i == k) continue;
                long times = a[i][k];
                for (int j = 0; j <= edges; j++) {
                    a[i][j] = (Math.multiplyExact(a[i][j], a[k][k]) - Math.multiplyExact(times, a[k][j])) / before;
                }
            }
            before = a[k][k];
        }
        Point p = new Point();
        p.lower = Math.abs(before);
        for (int e = 0; e < edges; e++) p.upper[e] = before < 0 ? -a[e][edges] : a[e][edges];
        return p;
    }
}
