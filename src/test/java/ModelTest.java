import java.math.BigInteger;

/**
 * Long runs of calls and all small networks, each answer held against a slow model that
 * follows the document's words: trees are listed one by one and voltages come from the
 * equations of "Terms".
 */
public final class ModelTest {
    private static final int RUNS = 120;
    private static final int CALLS = 512;
    private static final int[] ODD = {-1, -2, 7, 10, 32, 36, 1 << 30, Integer.MIN_VALUE, Integer.MAX_VALUE};
    private static long state = 20261115L;
    private static int wrong = 0;

    public static void main(String[] args) {
        for (int run = 0; run < RUNS; run++) {
            play(run);
        }
        everyNetwork(2, 0, 1, 2, 3, 4, 5, 6, 7, 8, 9);
        everyNetwork(3, 0, 1, 2, 3, 4, 5, 6, 7, 8, 9);
        everyNetwork(4, 0, 1, 3);
        everyNetwork(5, 0, 2);
        System.out.println(wrong == 0 ? "all answers are as due" : wrong + " answers are not as due");
        if (wrong != 0) {
            System.exit(1);
        }
    }

    /** A fixed sequence, so that every run of the test is the same. */
    private static int pick(int bound) {
        state = state * 6364136223846793005L + 1442695040888963407L;
        return (int) ((state >>> 33) % bound);
    }

    private static int pickPoint(int n) {
        int die = pick(40);
        return die == 0 ? ODD[pick(ODD.length)] : die == 1 ? n : pick(n);
    }

    private static int pickValue(int run) {
        int die = pick(30);
        if (die == 0) {
            return ODD[pick(ODD.length)];
        }
        // Some runs keep the network thin, others thick.
        return pick(4) < run % 4 ? 0 : pick(10);
    }

    private static int pickCount() {
        return pick(10) == 0 ? ODD[pick(ODD.length)] : pick(8);
    }

    private static void play(int run) {
        int asked = run % 10 == 9 ? ODD[pick(ODD.length)] : 2 + run % 5;
        NodalCircuit x = new NodalCircuit(asked);
        Model m = new Model(asked);
        for (int call = 0; call < CALLS; call++) {
            int kind = pick(4) == 0 ? 1 + pick(3) : pick(18);
            step(run, call, kind, x, m);
        }
    }

    private static void step(int run, int call, int kind, NodalCircuit x, Model m) {
        int p = pickPoint(m.n);
        int q = pickPoint(m.n);
        int v = pickValue(run);
        int count = pickCount();
        String where = "run " + run + ", call " + call + ": ";
        String pair = "(" + p + ", " + q + ")";
        switch (kind) {
            case 0 -> due(where + "points()", x.points(), m.n);
            case 1 -> due(where + "join" + pair + v, x.join(p, q, v), m.join(p, q, v));
            case 2 -> due(where + "chain" + p + " " + count + " " + v, x.chain(p, count, v), m.chain(p, count, v));
            case 3 -> due(where + "probe" + pair, x.probe(p, q), m.probe(p, q));
            case 4 -> due(where + "conductance" + pair, x.conductance(p, q), m.conductance(p, q));
            case 5 -> due(where + "joined" + pair, x.joined(p, q), m.joined(p, q));
            case 6 -> due(where + "parts()", x.parts(), m.parts());
            case 7 -> due(where + "trees()", x.trees(), m.trees(-1, -1));
            case 8 -> due(where + "voltageTop " + p, x.voltageTop(p), m.voltage(p)[0]);
            case 9 -> due(where + "voltageBottom " + p, x.voltageBottom(p), m.voltage(p)[1]);
            case 10 -> due(where + "currentTop()", x.currentTop(), m.current()[0]);
            case 11 -> due(where + "currentBottom()", x.currentBottom(), m.current()[1]);
            case 12 -> due(where + "resistanceTop" + pair, x.resistanceTop(p, q), m.resistance(p, q)[0]);
            case 13 -> due(where + "resistanceBottom" + pair, x.resistanceBottom(p, q), m.resistance(p, q)[1]);
            case 14 -> due(where + "flowTop" + pair, x.flowTop(p, q), m.flow(p, q)[0]);
            case 15 -> due(where + "flowBottom" + pair, x.flowBottom(p, q), m.flow(p, q)[1]);
            case 16 -> due(where + "treesWith" + pair, x.treesWith(p, q), m.treesWith(p, q));
            default -> due(where + "bridges()", x.bridges(), m.bridges());
        }
    }

    /** All networks of n points with conductances among these. */
    private static void everyNetwork(int n, int... values) {
        int pairs = n * (n - 1) / 2;
        long networks = Math.round(Math.pow(values.length, pairs));
        for (long code = 0; code < networks; code++) {
            NodalCircuit x = new NodalCircuit(n);
            Model m = new Model(n);
            long rest = code;
            for (int p = 0; p < n; p++) {
                for (int q = p + 1; q < n; q++) {
                    int value = values[(int) (rest % values.length)];
                    rest /= values.length;
                    x.join(p, q, value);
                    m.join(p, q, value);
                }
            }
            String where = n + " points, network " + code + ": ";
            dueNetwork(where, x, m);
            dueProbed(where, x, m);
            x.probe(n - 1, 0);
            m.probe(n - 1, 0);
            dueProbed(where + "turned ", x, m);
        }
    }

    private static void dueNetwork(String where, NodalCircuit x, Model m) {
        due(where + "parts()", x.parts(), m.parts());
        due(where + "trees()", x.trees(), m.trees(-1, -1));
        due(where + "bridges()", x.bridges(), m.bridges());
        for (int p = 0; p < m.n; p++) {
            for (int q = 0; q < m.n; q++) {
                String pair = "(" + p + ", " + q + ")";
                long[] resistance = m.resistance(p, q);
                due(where + "joined" + pair, x.joined(p, q), m.joined(p, q));
                due(where + "resistanceTop" + pair, x.resistanceTop(p, q), resistance[0]);
                due(where + "resistanceBottom" + pair, x.resistanceBottom(p, q), resistance[1]);
                due(where + "treesWith" + pair, x.treesWith(p, q), m.treesWith(p, q));
            }
        }
    }

    private static void dueProbed(String where, NodalCircuit x, Model m) {
        long[] current = m.current();
        due(where + "currentTop()", x.currentTop(), current[0]);
        due(where + "currentBottom()", x.currentBottom(), current[1]);
        for (int p = 0; p < m.n; p++) {
            long[] voltage = m.voltage(p);
            due(where + "voltageTop " + p, x.voltageTop(p), voltage[0]);
            due(where + "voltageBottom " + p, x.voltageBottom(p), voltage[1]);
            for (int q = 0; q < m.n; q++) {
                String pair = "(" + p + ", " + q + ")";
                long[] flow = m.flow(p, q);
                due(where + "flowTop" + pair, x.flowTop(p, q), flow[0]);
                due(where + "flowBottom" + pair, x.flowBottom(p, q), flow[1]);
            }
        }
    }

    private static void due(String call, long got, long want) {
        if (got != want) {
            wrong++;
            if (wrong <= 50) {
                System.out.println(call + " answered " + got + ", due is " + want);
            }
        }
    }

    private record Fraction(BigInteger top, BigInteger bottom) {
        static Fraction of(BigInteger top, BigInteger bottom) {
            BigInteger common = top.gcd(bottom);
            if (bottom.signum() < 0) {
                common = common.negate();
            }
            return new Fraction(top.divide(common), bottom.divide(common));
        }

        static Fraction of(long whole) {
            return new Fraction(BigInteger.valueOf(whole), BigInteger.ONE);
        }

        Fraction plus(Fraction o) {
            return of(top.multiply(o.bottom).add(o.top.multiply(bottom)), bottom.multiply(o.bottom));
        }

        Fraction minus(Fraction o) {
            return plus(new Fraction(o.top.negate(), o.bottom));
        }

        Fraction times(Fraction o) {
            return of(top.multiply(o.top), bottom.multiply(o.bottom));
        }

        Fraction over(Fraction o) {
            return of(top.multiply(o.bottom), bottom.multiply(o.top));
        }

        boolean isZero() {
            return top.signum() == 0;
        }

        long[] parts() {
            return new long[] {top.longValueExact(), bottom.longValueExact()};
        }
    }

    private static final class Model {
        final int n;
        final int[][] g;
        int s = 0;
        int d = 1;

        Model(int points) {
            n = Math.max(2, Math.min(6, points));
            g = new int[n][n];
        }

        boolean bad(int p) {
            return p < 0 || p > n - 1;
        }

        int join(int p, int q, int v) {
            if (bad(p) || bad(q)) return -1;
            if (p == q) return -2;
            if (v < 0 || v > 9) return -3;
            int before = g[p][q];
            g[p][q] = v;
            g[q][p] = v;
            return before;
        }

        int chain(int p, int count, int v) {
            if (bad(p)) return -1;
            if (count < 1 || count > 6) return -2;
            if (v < 0 || v > 9) return -3;
            for (int i = 0; i < count; i++) {
                join((p + i) % n, (p + i + 1) % n, v);
            }
            return 0;
        }

        int probe(int source, int drain) {
            if (bad(source) || bad(drain)) return -1;
            if (source == drain) return -2;
            s = source;
            d = drain;
            return 0;
        }

        int conductance(int p, int q) {
            return bad(p) || bad(q) ? -1 : p == q ? 0 : g[p][q];
        }

        boolean[][] closure() {
            boolean[][] to = new boolean[n][n];
            for (int p = 0; p < n; p++) {
                for (int q = 0; q < n; q++) {
                    to[p][q] = p == q || g[p][q] > 0;
                }
            }
            for (int k = 0; k < n; k++) {
                for (int p = 0; p < n; p++) {
                    for (int q = 0; q < n; q++) {
                        to[p][q] |= to[p][k] && to[k][q];
                    }
                }
            }
            return to;
        }

        int joined(int p, int q) {
            return bad(p) || bad(q) ? -1 : closure()[p][q] ? 1 : 0;
        }

        int parts() {
            boolean[][] to = closure();
            boolean[] seen = new boolean[n];
            int count = 0;
            for (int p = 0; p < n; p++) {
                if (seen[p]) continue;
                count++;
                for (int q = 0; q < n; q++) {
                    seen[q] |= to[p][q];
                }
            }
            return count;
        }

        /** Goes through all sets of n - 1 pairs; with wantP >= 0, only those with that pair count. */
        long trees(int wantP, int wantQ) {
            int[] low = new int[15];
            int[] high = new int[15];
            int pairs = 0;
            for (int p = 0; p < n; p++) {
                for (int q = p + 1; q < n; q++) {
                    low[pairs] = p;
                    high[pairs++] = q;
                }
            }
            long sum = 0;
            for (int set = 0; set < 1 << pairs; set++) {
                if (Integer.bitCount(set) == n - 1) {
                    sum += weight(set, low, high, wantP, wantQ);
                }
            }
            return sum;
        }

        long weight(int set, int[] low, int[] high, int wantP, int wantQ) {
            int[] root = new int[n];
            for (int p = 0; p < n; p++) {
                root[p] = p;
            }
            long product = 1;
            boolean has = wantP < 0;
            for (int i = 0; i < 15; i++) {
                if ((set >> i & 1) == 0) continue;
                int a = root[low[i]];
                int b = root[high[i]];
                // A pair that joins nothing new leaves too few for all points.
                if (a == b) return 0;
                for (int p = 0; p < n; p++) {
                    if (root[p] == a) root[p] = b;
                }
                product *= g[low[i]][high[i]];
                has |= low[i] == Math.min(wantP, wantQ) && high[i] == Math.max(wantP, wantQ);
            }
            return has ? product : 0;
        }

        long treesWith(int p, int q) {
            if (bad(p) || bad(q)) return -1;
            if (p == q) return -2;
            return trees(p, q);
        }

        /** The voltages with probes at source and drain, which are joined; 0 where there is none. */
        Fraction[] voltages(int source, int drain) {
            boolean[][] to = closure();
            Fraction[][] a = new Fraction[n][n + 1];
            for (int p = 0; p < n; p++) {
                boolean free = p != source && p != drain && to[source][p];
                long sum = 0;
                for (int q = 0; q < n; q++) {
                    a[p][q] = Fraction.of(free ? -g[p][q] : 0);
                    sum += g[p][q];
                }
                a[p][p] = Fraction.of(free ? sum : 1);
                a[p][n] = Fraction.of(p == source ? 1 : 0);
            }
            return solve(a);
        }

        Fraction[] solve(Fraction[][] a) {
            for (int k = 0; k < n; k++) {
                int pivot = k;
                while (a[pivot][k].isZero()) pivot++;
                Fraction[] swapped = a[k];
                a[k] = a[pivot];
                a[pivot] = swapped;
                for (int r = 0; r < n; r++) {
                    if (r == k) continue;
                    Fraction factor = a[r][k].over(a[k][k]);
                    for (int c = k; c <= n; c++) {
                        a[r][c] = a[r][c].minus(factor.times(a[k][c]));
                    }
                }
            }
            Fraction[] solution = new Fraction[n];
            for (int k = 0; k < n; k++) {
                solution[k] = a[k][n].over(a[k][k]);
            }
            return solution;
        }

        Fraction currentBetween(int source, int drain) {
            Fraction[] v = voltages(source, drain);
            Fraction sum = Fraction.of(0);
            for (int q = 0; q < n; q++) {
                sum = sum.plus(Fraction.of(g[source][q]).times(Fraction.of(1).minus(v[q])));
            }
            return sum;
        }

        long[] both(long answer) {
            return new long[] {answer, answer};
        }

        long[] voltage(int p) {
            if (bad(p)) return both(-1);
            if (joined(s, d) == 0) return both(-2);
            if (joined(s, p) == 0) return both(-3);
            return voltages(s, d)[p].parts();
        }

        long[] current() {
            if (joined(s, d) == 0) return new long[] {0, 1};
            return currentBetween(s, d).parts();
        }

        long[] resistance(int p, int q) {
            if (bad(p) || bad(q)) return both(-1);
            if (joined(p, q) == 0) return both(-2);
            if (p == q) return new long[] {0, 1};
            return Fraction.of(1).over(currentBetween(p, q)).parts();
        }

        long[] flow(int p, int q) {
            if (bad(p) || bad(q) || joined(s, d) == 0 || joined(s, p) == 0 || joined(s, q) == 0) {
                return new long[] {0, 1};
            }
            Fraction[] v = voltages(s, d);
            return Fraction.of(g[p][q]).times(v[p].minus(v[q])).parts();
        }

        int bridges() {
            int parts = parts();
            int count = 0;
            for (int p = 0; p < n; p++) {
                for (int q = p + 1; q < n; q++) {
                    int before = g[p][q];
                    join(p, q, 0);
                    if (before > 0 && parts() > parts) count++;
                    join(p, q, before);
                }
            }
            return count;
        }
    }
}
