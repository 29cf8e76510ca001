/**
 * Networks of conductors: voltages, currents and resistances in exact fractions.
 *
 * Every fraction is a quotient of two whole numbers of the network's matrix of
 * conductances: treeSum (the weights of all trees of a group of joined points)
 * and splitSum (the weights of all pairs of trees that part two points).
 */
public final class NodalCircuit {
    private static final int FEWEST = 2;
    private static final int MOST = 6;
    private static final int CELLS = 36;
    private static final int LONGEST_CHAIN = 6;
    private static final int GREATEST_VALUE = 9;
    // Euclid needs at most some 90 steps for numbers below 2^62.
    private static final int EUCLID_STEPS = 128;
    private static final int NO_CELL = -1;

    // The conductance between p and q stands at p * MOST + q and at q * MOST + p.
    private final int[] values = new int[CELLS];
    private final long[] matrix = new long[CELLS];
    private final int size;
    private int source;
    private int drain;

    public NodalCircuit(int points) {
        size = points < FEWEST ? FEWEST : points > MOST ? MOST : points;
        source = 0;
        drain = 1;
    }

    public int points() {
        return size;
    }

    public int join(int p, int q, int value) {
        if (!isGood(p) || !isGood(q)) {
            return -1;
        }
        if (p == q) {
            return -2;
        }
        if (!isValue(value)) {
            return -3;
        }
        int before = values[p * MOST + q];
        setPair(p, q, value);
        return before;
    }

    public int chain(int p, int count, int value) {
        if (!isGood(p)) {
            return -1;
        }
        if (count < 1 || count > LONGEST_CHAIN) {
            return -2;
        }
        if (!isValue(value)) {
            return -3;
        }
        for (int link = 0; link < count; link++) {
            // With two points or more, a point and the next one always differ.
            int from = (p + link) % size;
            int to = (p + link + 1) % size;
            setPair(from, to, value);
        }
        return 0;
    }

    public int probe(int source, int drain) {
        if (!isGood(source) || !isGood(drain)) {
            return -1;
        }
        if (source == drain) {
            return -2;
        }
        this.source = source;
        this.drain = drain;
        return 0;
    }

    public int conductance(int p, int q) {
        if (!isGood(p) || !isGood(q)) {
            return -1;
        }
        return values[p * MOST + q];
    }

    public int joined(int p, int q) {
        if (!isGood(p) || !isGood(q)) {
            return -1;
        }
        return areJoined(p, q) ? 1 : 0;
    }

    public int parts() {
        int count = 0;
        for (int p = 0; p < size; p++) {
            int lowerPoints = (1 << p) - 1;
            // A group is counted once, at its lowest point.
            if ((groupOf(p, NO_CELL) & lowerPoints) == 0) {
                count++;
            }
        }
        return count;
    }

    public long trees() {
        int all = everyPoint();
        return treeSum(all);
    }

    public long voltageTop(int p) {
        int refusal = voltageRefusal(p);
        if (refusal != 0) {
            return refusal;
        }
        long top = doubleVoltageShare(p);
        long bottom = 2 * splitSum(source, drain);
        return lowered(top, bottom);
    }

    public long voltageBottom(int p) {
        int refusal = voltageRefusal(p);
        if (refusal != 0) {
            return refusal;
        }
        long top = doubleVoltageShare(p);
        long bottom = 2 * splitSum(source, drain);
        return lowered(bottom, top);
    }

    public long currentTop() {
        if (!areJoined(source, drain)) {
            return 0;
        }
        long top = groupTreeSum(source);
        long bottom = splitSum(source, drain);
        return lowered(top, bottom);
    }

    public long currentBottom() {
        if (!areJoined(source, drain)) {
            return 1;
        }
        long top = groupTreeSum(source);
        long bottom = splitSum(source, drain);
        return lowered(bottom, top);
    }

    public long resistanceTop(int p, int q) {
        int refusal = resistanceRefusal(p, q);
        if (refusal != 0) {
            return refusal;
        }
        long top = splitSum(p, q);
        long bottom = groupTreeSum(p);
        return lowered(top, bottom);
    }

    public long resistanceBottom(int p, int q) {
        int refusal = resistanceRefusal(p, q);
        if (refusal != 0) {
            return refusal;
        }
        long top = splitSum(p, q);
        long bottom = groupTreeSum(p);
        return lowered(bottom, top);
    }

    public long flowTop(int p, int q) {
        if (!hasFlow(p, q)) {
            return 0;
        }
        long top = doubleFlowShare(p, q);
        long bottom = 2 * splitSum(source, drain);
        return lowered(top, bottom);
    }

    public long flowBottom(int p, int q) {
        if (!hasFlow(p, q)) {
            return 1;
        }
        long top = doubleFlowShare(p, q);
        long bottom = 2 * splitSum(source, drain);
        return lowered(bottom, top);
    }

    public long treesWith(int p, int q) {
        if (!isGood(p) || !isGood(q)) {
            return -1;
        }
        if (p == q) {
            return -2;
        }
        if (groupOf(p, NO_CELL) != everyPoint()) {
            return 0;
        }
        // A tree with the pair is the pair and two trees that part p from q.
        return values[p * MOST + q] * splitSum(p, q);
    }

    public int bridges() {
        int count = 0;
        for (int p = 0; p < size; p++) {
            for (int q = p + 1; q < size; q++) {
                if (isBridge(p, q)) {
                    count++;
                }
            }
        }
        return count;
    }

    private boolean isGood(int p) {
        return p >= 0 && p < size;
    }

    private static boolean isValue(int value) {
        return value >= 0 && value <= GREATEST_VALUE;
    }

    private void setPair(int p, int q, int value) {
        values[p * MOST + q] = value;
        values[q * MOST + p] = value;
    }

    /** Sets of points are held as bits: bit p for point p. */
    private int everyPoint() {
        return (1 << size) - 1;
    }

    /** The points that p is joined to without the pair at leftOut, a cell with the lower point first. */
    private int groupOf(int p, int leftOut) {
        int group = 1 << p;
        // Each round adds a point until none is left to add, so size rounds are enough.
        for (int round = 0; round < size; round++) {
            for (int low = 0; low < size; low++) {
                for (int high = low + 1; high < size; high++) {
                    int cell = low * MOST + high;
                    int both = 1 << low | 1 << high;
                    if (cell != leftOut && values[cell] > 0 && (group & both) != 0) {
                        group |= both;
                    }
                }
            }
        }
        return group;
    }

    private boolean areJoined(int p, int q) {
        int group = groupOf(p, NO_CELL);
        return (group >> q & 1) == 1;
    }

    /** Tells it for p below q. */
    private boolean isBridge(int p, int q) {
        int cell = p * MOST + q;
        if (values[cell] == 0) {
            return false;
        }
        int group = groupOf(p, cell);
        return (group >> q & 1) == 0;
    }

    private int voltageRefusal(int p) {
        if (!isGood(p)) {
            return -1;
        }
        if (!areJoined(source, drain)) {
            return -2;
        }
        return areJoined(source, p) ? 0 : -3;
    }

    private int resistanceRefusal(int p, int q) {
        if (!isGood(p) || !isGood(q)) {
            return -1;
        }
        return areJoined(p, q) ? 0 : -2;
    }

    private boolean hasFlow(int p, int q) {
        return voltageRefusal(p) == 0 && voltageRefusal(q) == 0;
    }

    /**
     * The voltage of p times 2 * splitSum(source, drain).
     *
     * The voltage is the share, among the pairs of trees that part source from drain,
     * of those with p on the source's side. Of the three sums below, each such pair is
     * in the first two, and every other pair is in the third and in one of the first two.
     */
    private long doubleVoltageShare(int p) {
        return splitSum(source, drain) + splitSum(p, drain) - splitSum(source, p);
    }

    private long doubleFlowShare(int p, int q) {
        long difference = doubleVoltageShare(p) - doubleVoltageShare(q);
        return values[p * MOST + q] * difference;
    }

    /** The sum of the weights of all trees over a set of points that has no conductance to others. */
    private long treeSum(int set) {
        // Any one point may be left out of the minor; here it is the lowest.
        return minor(set & (set - 1));
    }

    private long groupTreeSum(int p) {
        int group = groupOf(p, NO_CELL);
        return treeSum(group);
    }

    /**
     * For joined p and q: the sum of the weights of all pairs of trees, one with p and
     * one with q, that have together all points of their group; 0 for the same point.
     */
    private long splitSum(int p, int q) {
        if (p == q) {
            return 0;
        }
        int group = groupOf(p, NO_CELL);
        int ends = 1 << p | 1 << q;
        return minor(group & ~ends);
    }

    /** The determinant of the rows and columns of the kept points in the network's Laplace matrix. */
    private long minor(int kept) {
        for (int p = 0; p < size; p++) {
            long sum = 0;
            for (int q = 0; q < size; q++) {
                int cell = p * MOST + q;
                boolean bothKept = (kept >> p & kept >> q & 1) == 1;
                matrix[cell] = bothKept ? -values[cell] : 0;
                sum += values[cell];
            }
            // A row and column of the unit matrix stands for one that is left out.
            matrix[p * MOST + p] = (kept >> p & 1) == 1 ? sum : 1;
        }
        return determinant();
    }

    /** Bareiss's elimination: every division in it is exact. It uses the matrix up. */
    private long determinant() {
        long before = 1;
        for (int step = 0; step < size - 1; step++) {
            long pivot = matrix[step * MOST + step];
            // The matrix is positive semidefinite, so a leading minor of 0 makes the whole 0.
            if (pivot == 0) {
                return 0;
            }
            for (int row = step + 1; row < size; row++) {
                for (int column = step + 1; column < size; column++) {
                    long straight = matrix[row * MOST + column] * pivot;
                    long crossed = matrix[row * MOST + step] * matrix[step * MOST + column];
                    matrix[row * MOST + column] = (straight - crossed) / before;
                }
            }
            before = pivot;
        }
        int last = size - 1;
        return matrix[last * MOST + last];
    }

    /** One part of a fraction after the fraction is brought to lowest terms. */
    private static long lowered(long part, long otherPart) {
        long divisor = commonDivisor(part, otherPart);
        return divisor == 0 ? part : part / divisor;
    }

    private static long commonDivisor(long a, long b) {
        long greater = a < 0 ? -a : a;
        long smaller = b < 0 ? -b : b;
        for (int step = 0; step < EUCLID_STEPS && smaller != 0; step++) {
            long rest = greater % smaller;
            greater = smaller;
            smaller = rest;
        }
        return greater;
    }
}
