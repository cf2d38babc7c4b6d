import java.util.Arrays;

/** Sets edges as wishes ask, exactly; ../shared/DOC.md has the promise of each call. */
public final class PullAndPush {
    public static final int NONE = -1, UNKNOWN = -2000000001, OUTSIDE = -2000000002, STATE = -2000000003, FULL = -2000000004, CLASH = -2000000005;

    private static final int EDGES = 5;
    private static final int WISHES = 9;
    private static final int LEVELS = 4;
    private static final int MUST = 0;
    private static final int MUSTS_ALONE = 1;
    private static final int FACTOR_BOUND = 3;
    private static final int NUMBER_BOUND = 1000;
    private static final int STAY_BOUND = 100000;

    private static final int EQUAL = 0;
    private static final int AT_MOST = 1;
    private static final int AT_LEAST = 2;

    private final int[] stays;
    private final int[] nextFactors;
    private final int[] sideFactors;
    private final long[] pixels;
    private final Wish[] wishes;
    private int edges;
    private int latestQuarrel;

    /** Holds THE SETTING while isSet; trial is for what is only tried out. */
    private Solver setting;
    private Solver trial;
    private boolean isSet;

    public PullAndPush() {
        stays = new int[EDGES];
        nextFactors = new int[EDGES];
        sideFactors = new int[EDGES];
        pixels = new long[EDGES];
        wishes = new Wish[WISHES];
        for (int w = 0; w < WISHES; w++) {
            wishes[w] = new Wish();
        }
        setting = new Solver();
        trial = new Solver();
    }

    // ---- edges, wishes

    public int edge(int stay) {
        if (!isWithin(stay, STAY_BOUND)) {
            return OUTSIDE;
        }
        if (edges >= EDGES) {
            return FULL;
        }
        stays[edges] = stay;
        edges++;
        isSet = false;
        return edges - 1;
    }

    public int factor(int e, int f) {
        if (e < 0 || e >= EDGES || !isWithin(f, FACTOR_BOUND)) {
            return OUTSIDE;
        }
        int before = nextFactors[e];
        nextFactors[e] = f;
        return before;
    }

    public int wish(int relation, int level, int weight, int number) {
        if (relation < EQUAL || relation > AT_LEAST || !isStrength(level, weight) || !isWithin(number, NUMBER_BOUND)) {
            return OUTSIDE;
        }
        if (areAllZero(nextFactors, 0) || !areAllZero(nextFactors, edges)) {
            return STATE;
        }
        int answer = addWish(nextFactors, relation, level, weight, number);
        Arrays.fill(nextFactors, 0);
        return answer;
    }

    public int side(int a, int b, int c, int gap, int level, int weight) {
        if (!isEdge(a) || !isEdge(b) || !isEdge(c)) {
            return UNKNOWN;
        }
        if (gap < 0 || gap > NUMBER_BOUND || !isStrength(level, weight)) {
            return OUTSIDE;
        }
        Arrays.fill(sideFactors, 0);
        sideFactors[a]++;
        sideFactors[b]++;
        sideFactors[c]--;
        if (areAllZero(sideFactors, 0)) {
            return STATE;
        }
        return addWish(sideFactors, EQUAL, level, weight, -gap);
    }

    public int take(int w) {
        if (!isWish(w)) {
            return UNKNOWN;
        }
        wishes[w].there = false;
        isSet = false;
        return countWishes();
    }

    public int hide(int w, boolean on) {
        if (!isWish(w)) {
            return UNKNOWN;
        }
        Wish wish = wishes[w];
        boolean before = wish.hidden;
        wish.hidden = on;
        if (before != on && clashes(wish)) {
            wish.hidden = before;
            return CLASH;
        }
        return before ? 1 : 0;
    }

    public int drag(int w, int v) {
        if (!isWish(w)) {
            return UNKNOWN;
        }
        if (!isWithin(v, NUMBER_BOUND)) {
            return OUTSIDE;
        }
        Wish wish = wishes[w];
        int before = wish.number;
        wish.number = v;
        if (before != v && clashes(wish)) {
            wish.number = before;
            return CLASH;
        }
        return before;
    }

    public int strength(int w, int level, int weight) {
        if (!isWish(w)) {
            return UNKNOWN;
        }
        if (!isStrength(level, weight)) {
            return OUTSIDE;
        }
        Wish wish = wishes[w];
        int levelBefore = wish.level;
        int weightBefore = wish.weight;
        wish.level = level;
        wish.weight = weight;
        if (clashes(wish)) {
            wish.level = levelBefore;
            wish.weight = weightBefore;
            return CLASH;
        }
        return 1;
    }

    public int told(int w, int what) {
        if (!isWish(w)) {
            return UNKNOWN;
        }
        if (what < 0 || what >= 5 + EDGES) {
            return OUTSIDE;
        }
        Wish wish = wishes[w];
        switch (what) {
            case 0: return wish.relation;
            case 1: return wish.level;
            case 2: return wish.weight;
            case 3: return wish.number;
            case 4: return wish.hidden ? 1 : 0;
            default: return wish.factors[what - 5];
        }
    }

    public int count(int what) {
        switch (what) {
            case 0: return edges;
            case 1: return countWishes();
            case 2: return Integer.bitCount(countingWishes(MUST));
            case 3: return countUnmet();
            default: return OUTSIDE;
        }
    }

    public int quarrel() {
        return latestQuarrel;
    }

    // ---- the setting

    public int at(int e, int what) {
        if (!isEdge(e)) {
            return UNKNOWN;
        }
        if (!isPart(what)) {
            return OUTSIDE;
        }
        findSetting();
        return (int) inLeastTerms(setting.places[e], setting.lower, what);
    }

    public int pixel(int e) {
        if (!isEdge(e)) {
            return UNKNOWN;
        }
        findSetting();
        return (int) pixelOf(e);
    }

    public long off(int w, int what) {
        if (!isWish(w)) {
            return UNKNOWN;
        }
        if (!isPart(what)) {
            return OUTSIDE;
        }
        findSetting();
        return inLeastTerms(setting.missOf(wishes[w]), setting.lower, what);
    }

    public long cost(int level, int what) {
        if (level <= MUST || level >= LEVELS || !isPart(what)) {
            return OUTSIDE;
        }
        findSetting();
        long sum = 0;
        for (int w = 0; w < WISHES; w++) {
            Wish wish = wishes[w];
            if (wish.counts() && wish.level == level) {
                sum += wish.weight * setting.missOf(wish);
            }
        }
        return inLeastTerms(sum, setting.lower, what);
    }

    public int why(int w) {
        if (!isWish(w)) {
            return UNKNOWN;
        }
        Wish wish = wishes[w];
        if (wish.hidden) {
            return 0;
        }
        findSetting();
        if (setting.missOf(wish) == 0) {
            return 0;
        }
        int against = 0;
        for (int v = 0; v < WISHES; v++) {
            Wish other = wishes[v];
            if (v != w && other.counts() && other.level <= wish.level && isNearerWithout(wish, v)) {
                against |= 1 << v;
            }
        }
        return against;
    }

    // ---- stays

    public int stay(int e) {
        return isEdge(e) ? stays[e] : UNKNOWN;
    }

    public int move(int e, int v) {
        if (!isEdge(e)) {
            return UNKNOWN;
        }
        if (!isWithin(v, STAY_BOUND)) {
            return OUTSIDE;
        }
        int before = stays[e];
        stays[e] = v;
        isSet = isSet && before == v;
        return before;
    }

    public int settle() {
        findSetting();
        for (int e = 0; e < edges; e++) {
            pixels[e] = pixelOf(e);
            if (pixels[e] < -STAY_BOUND || pixels[e] > STAY_BOUND) {
                return STATE;
            }
        }
        int changed = 0;
        for (int e = 0; e < edges; e++) {
            if (stays[e] != pixels[e]) {
                stays[e] = (int) pixels[e];
                changed++;
            }
        }
        isSet = isSet && changed == 0;
        return changed;
    }

    // ---- bounds

    private static boolean isWithin(int number, int bound) {
        return number >= -bound && number <= bound;
    }

    private static boolean isStrength(int level, int weight) {
        return level >= MUST && level < LEVELS && weight >= 1 && weight <= 9;
    }

    private static boolean isPart(int what) {
        return what == 0 || what == 1;
    }

    private boolean isEdge(int e) {
        return e >= 0 && e < edges;
    }

    private boolean isWish(int w) {
        return w >= 0 && w < WISHES && wishes[w].there;
    }

    private static boolean areAllZero(int[] factors, int from) {
        for (int e = from; e < factors.length; e++) {
            if (factors[e] != 0) {
                return false;
            }
        }
        return true;
    }

    // ---- wishes together

    private int addWish(int[] factors, int relation, int level, int weight, int number) {
        int w = freeWish();
        if (w == NONE) {
            return FULL;
        }
        Wish wish = wishes[w];
        wish.become(factors, relation, level, weight, number);
        if (clashes(wish)) {
            wish.there = false;
            return CLASH;
        }
        return w;
    }

    private int freeWish() {
        for (int w = 0; w < WISHES; w++) {
            if (!wishes[w].there) {
                return w;
            }
        }
        return NONE;
    }

    private int countWishes() {
        int found = 0;
        for (int w = 0; w < WISHES; w++) {
            if (wishes[w].there) {
                found++;
            }
        }
        return found;
    }

    private int countUnmet() {
        findSetting();
        int found = 0;
        for (int w = 0; w < WISHES; w++) {
            if (wishes[w].counts() && setting.missOf(wishes[w]) != 0) {
                found++;
            }
        }
        return found;
    }

    /** The wishes that are not hidden, up to a level, as bits. */
    private int countingWishes(int upToLevel) {
        int bits = 0;
        for (int w = 0; w < WISHES; w++) {
            if (wishes[w].counts() && wishes[w].level <= upToLevel) {
                bits |= 1 << w;
            }
        }
        return bits;
    }

    // ---- finding the setting

    private void findSetting() {
        if (!isSet) {
            setting.load(wishes, countingWishes(LEVELS), stays, edges);
            setting.solve();
            isSet = true;
        }
    }

    /**
     * Whether the musts quarrel now that a wish has changed; the caller then undoes the change,
     * for which the setting found before it is kept.
     */
    private boolean clashes(Wish changed) {
        if (!changed.counts() || changed.level != MUST) {
            isSet = false;
            return false;
        }
        trial.load(wishes, countingWishes(LEVELS), stays, edges);
        trial.lessenCost(MUSTS_ALONE);
        if (!trial.areMustsMet()) {
            latestQuarrel = leastQuarrel();
            return true;
        }
        trial.solve();
        Solver before = setting;
        setting = trial;
        trial = before;
        isSet = true;
        return false;
    }

    private int leastQuarrel() {
        int left = countingWishes(MUST);
        for (int w = 0; w < WISHES; w++) {
            int others = left & ~(1 << w);
            if (others != left) {
                trial.load(wishes, others, stays, edges);
                trial.lessenCost(MUSTS_ALONE);
                if (!trial.areMustsMet()) {
                    left = others;
                }
            }
        }
        return left;
    }

    private boolean isNearerWithout(Wish wish, int v) {
        trial.copy(setting);
        trial.drop(v);
        trial.solve();
        return trial.missOf(wish) * setting.lower < setting.missOf(wish) * trial.lower;
    }

    // ---- fractions

    private long pixelOf(int e) {
        if (setting.lower <= 0) {
            return 0;
        }
        return Math.floorDiv(2 * setting.places[e] + setting.lower, 2 * setting.lower);
    }

    private static long inLeastTerms(long upper, long lower, int what) {
        long divisor = greatestDivisor(Math.abs(upper), lower);
        long part = what == 0 ? upper : lower;
        return divisor == 0 ? part : part / divisor;
    }

    private static long greatestDivisor(long a, long b) {
        for (int step = 0; step < 200 && b != 0; step++) {
            long rest = a % b;
            a = b;
            b = rest;
        }
        return a;
    }

    private static final class Wish {
        boolean there;
        boolean hidden;
        int relation;
        int level;
        int weight;
        int number;
        final int[] factors = new int[EDGES];

        void become(int[] newFactors, int newRelation, int newLevel, int newWeight, int newNumber) {
            for (int e = 0; e < EDGES && e < newFactors.length; e++) {
                factors[e] = newFactors[e];
            }
            relation = newRelation;
            level = newLevel;
            weight = newWeight;
            number = newNumber;
            hidden = false;
            there = true;
        }

        boolean counts() {
            return there && !hidden;
        }

        /** What a sum costs for each unit above the number. */
        int costAbove() {
            return relation == AT_LEAST ? 0 : weight;
        }

        int costBelow() {
            return relation == AT_MOST ? 0 : weight;
        }
    }

    /**
     * The simplex method on whole numbers. A line is a wish (its number) or "edge e is at its stay" (WISHES + e);
     * its gap is its sum less its number. As many lines as there are edges stand in columns: their gaps are 0,
     * and that sets all edges. Every other line stands in a row:
     * lower * gap of the row = rest + the sum of cell * gap of the column.
     * Stays are levels of their own behind the levels of wishes, so that all costs are weighed in one go.
     */
    private static final class Solver {
        private static final int LINES = WISHES + EDGES;
        private static final int ALL_LEVELS = LEVELS + EDGES;
        private static final int STEP_BOUND = 1000000;

        /** The edges are places / lower; lower is above 0. */
        long lower = 1;
        final long[] places = new long[EDGES];

        private int rows;
        private int columns;
        private final int[] rowLine = new int[WISHES];
        /** 1: the row's gap is counted as one of 0 or above, -1: of 0 or below. */
        private final int[] rowSide = new int[WISHES];
        private final int[] columnLine = new int[EDGES];
        private final long[] rest = new long[WISHES];
        private final long[][] cell = new long[WISHES][EDGES];

        private final int[] stayOf = new int[EDGES];
        private final int[] level = new int[LINES];
        private final int[] above = new int[LINES];
        private final int[] below = new int[LINES];

        /** How the cost of each level grows with the gap of a column, by the rows alone. */
        private final long[] growth = new long[ALL_LEVELS * EDGES];

        private int enteringColumn;
        private int enteringWay;

        /** Starts with all edges at their stays. */
        void load(Wish[] wishes, int chosen, int[] stays, int edges) {
            lower = 1;
            columns = Math.min(edges, EDGES);
            for (int e = 0; e < columns; e++) {
                stayOf[e] = stays[e];
                columnLine[e] = WISHES + e;
                level[WISHES + e] = LEVELS + e;
                above[WISHES + e] = 1;
                below[WISHES + e] = 1;
            }
            rows = 0;
            for (int w = 0; w < WISHES && w < wishes.length; w++) {
                if ((chosen >> w & 1) == 1) {
                    addRow(w, wishes[w]);
                }
            }
        }

        private void addRow(int line, Wish wish) {
            level[line] = wish.level;
            above[line] = wish.costAbove();
            below[line] = wish.costBelow();
            long gap = -wish.number;
            for (int e = 0; e < columns; e++) {
                cell[rows][e] = wish.factors[e];
                gap += (long) wish.factors[e] * stayOf[e];
            }
            rest[rows] = gap;
            rowSide[rows] = gap < 0 ? -1 : 1;
            rowLine[rows] = line;
            rows++;
        }

        void copy(Solver other) {
            lower = other.lower;
            rows = other.rows;
            columns = other.columns;
            System.arraycopy(other.rowLine, 0, rowLine, 0, WISHES);
            System.arraycopy(other.rowSide, 0, rowSide, 0, WISHES);
            System.arraycopy(other.columnLine, 0, columnLine, 0, EDGES);
            System.arraycopy(other.rest, 0, rest, 0, WISHES);
            System.arraycopy(other.stayOf, 0, stayOf, 0, EDGES);
            System.arraycopy(other.level, 0, level, 0, LINES);
            System.arraycopy(other.above, 0, above, 0, LINES);
            System.arraycopy(other.below, 0, below, 0, LINES);
            for (int i = 0; i < rows; i++) {
                System.arraycopy(other.cell[i], 0, cell[i], 0, EDGES);
            }
        }

        /** A line that costs nothing is as good as not there. */
        void drop(int line) {
            above[line] = 0;
            below[line] = 0;
        }

        boolean areMustsMet() {
            for (int i = 0; i < rows; i++) {
                if (level[rowLine[i]] == MUST && rest[i] != 0 && slopeOf(i) != 0) {
                    return false;
                }
            }
            return true;
        }

        void solve() {
            lessenCost(LEVELS + columns);
            for (int e = 0; e < columns; e++) {
                places[e] = stayOf[e] * lower;
            }
            for (int i = 0; i < rows; i++) {
                if (rowLine[i] >= WISHES) {
                    places[rowLine[i] - WISHES] += rest[i];
                }
            }
        }

        /** How far a wish is off, times lower. */
        long missOf(Wish wish) {
            long gap = -wish.number * lower;
            for (int e = 0; e < columns; e++) {
                gap += wish.factors[e] * places[e];
            }
            if (wish.relation == AT_MOST) {
                return Math.max(gap, 0);
            }
            return wish.relation == AT_LEAST ? Math.max(-gap, 0) : Math.abs(gap);
        }

        /** Brings the edges to where the costs of the first so many levels are least. */
        void lessenCost(int levels) {
            for (int step = 0; step < STEP_BOUND; step++) {
                findGrowth(levels);
                if (!findEntering(levels)) {
                    return;
                }
                int row = findLeaving(levels);
                if (row == NONE) {
                    return;
                }
                swap(row);
            }
        }

        private void findGrowth(int levels) {
            Arrays.fill(growth, 0);
            for (int i = 0; i < rows; i++) {
                int rowLevel = level[rowLine[i]];
                long slope = slopeOf(i);
                if (slope != 0 && rowLevel < levels) {
                    for (int j = 0; j < columns; j++) {
                        growth[rowLevel * EDGES + j] += slope * cell[i][j];
                    }
                }
            }
        }

        private long slopeOf(int row) {
            return rowSide[row] > 0 ? above[rowLine[row]] : -below[rowLine[row]];
        }

        /** The first line in number that lessens the cost, as Bland's rule wants it. */
        private boolean findEntering(int levels) {
            int first = 2 * LINES;
            for (int j = 0; j < columns; j++) {
                int line = columnLine[j];
                if (2 * line < first && lessens(j, 1, levels)) {
                    first = 2 * line;
                    enteringColumn = j;
                    enteringWay = 1;
                } else if (2 * line + 1 < first && lessens(j, -1, levels)) {
                    first = 2 * line + 1;
                    enteringColumn = j;
                    enteringWay = -1;
                }
            }
            return first < 2 * LINES;
        }

        private boolean lessens(int column, int way, int levels) {
            int line = columnLine[column];
            for (int l = 0; l < levels; l++) {
                long change = way * growth[l * EDGES + column];
                if (l == level[line]) {
                    change += lower * (way > 0 ? above[line] : below[line]);
                }
                if (change != 0) {
                    return change < 0;
                }
            }
            return false;
        }

        /**
         * The row that changes places with the entering column: gaps that come to 0 are passed while the cost still falls.
         * Where the first is at 0 already none is passed, as only Bland's rule ends a walk that does not move.
         */
        private int findLeaving(int levels) {
            int row = firstAtZero();
            if (row == NONE || rest[row] == 0) {
                return row;
            }
            for (int passed = 0; passed < rows; passed++) {
                pass(row);
                int next = firstAtZero();
                if (next == NONE || !lessens(enteringColumn, enteringWay, levels)) {
                    return row;
                }
                row = next;
            }
            return row;
        }

        /** The row whose gap comes to 0 first; of several the first line in number. */
        private int firstAtZero() {
            int best = NONE;
            long bestSize = 0;
            long bestSpeed = 0;
            for (int i = 0; i < rows; i++) {
                long size = rowSide[i] * rest[i];
                long speed = -rowSide[i] * enteringWay * cell[i][enteringColumn];
                if (speed > 0) {
                    long order = best == NONE ? -1 : size * bestSpeed - bestSize * speed;
                    if (order < 0 || order == 0 && rowLine[i] < rowLine[best]) {
                        best = i;
                        bestSize = size;
                        bestSpeed = speed;
                    }
                }
            }
            return best;
        }

        private void pass(int row) {
            int line = rowLine[row];
            long bend = (above[line] + below[line]) * Math.abs(cell[row][enteringColumn]);
            growth[level[line] * EDGES + enteringColumn] += enteringWay * bend;
            rowSide[row] = -rowSide[row];
        }

        private void swap(int row) {
            int column = enteringColumn;
            long sign = cell[row][column] < 0 ? -1 : 1;
            long pivot = sign * cell[row][column];
            if (pivot == 0 || lower == 0) {
                return;
            }
            for (int i = 0; i < rows; i++) {
                if (i != row) {
                    putIn(row, i, sign, pivot);
                }
            }
            for (int j = 0; j < columns; j++) {
                cell[row][j] *= -sign;
            }
            rest[row] *= -sign;
            cell[row][column] = sign * lower;
            lower = pivot;
            int line = rowLine[row];
            rowLine[row] = columnLine[column];
            rowSide[row] = enteringWay;
            columnLine[column] = line;
        }

        /** Every division here is even: all cells are determinants of the factors. */
        private void putIn(int row, int other, long sign, long pivot) {
            long[] from = cell[row];
            long[] into = cell[other];
            long times = sign * into[enteringColumn];
            if (lower == 0 || times == 0 && pivot == lower) {
                return;
            }
            for (int j = 0; j < columns; j++) {
                into[j] = (into[j] * pivot - times * from[j]) / lower;
            }
            rest[other] = (rest[other] * pivot - times * rest[row]) / lower;
            into[enteringColumn] = times;
        }
    }
}
