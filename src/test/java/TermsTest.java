import java.math.BigInteger;
import java.util.ArrayList;
import java.util.List;

/** For each sentence of "What it is" and "Terms" that holds for several promises, a test of its own. */
public final class TermsTest {
    private static String sentence = "";
    private static int wrong = 0;

    public static void main(String[] args) {
        test("used for at most 512 calls", TermsTest::the512thCall);
        test("points 0 .. n-1", TermsTest::pointsFrom0ToNMinus1);
        test("a conductance 0 .. 9", TermsTest::everyConductance);
        test("0 at first", TermsTest::conductances0AtFirst);
        test("from no point to itself", TermsTest::noneToItself);
        test("joined over conductances greater than 0", TermsTest::joinedOver1NotOver0);
        test("a point is joined to itself", TermsTest::joinedToItself);
        test("for points not all joined there is no tree", TermsTest::noTreeIfNotAllJoined);
        test("at first s = 0 and d = 1", TermsTest::probesAtFirst);
        test("if they are joined, for every point joined to them", TermsTest::voltageWhereJoined);
        test("the drain's voltage is 0, the source's is 1", TermsTest::voltagesOfProbes);
        test("for every other point the sum is 0", TermsTest::sumsAtOtherPoints);
        test("the current is the sum at the source", TermsTest::currentIsSumAtSource);
        test("lowest terms, denominator positive", TermsTest::lowestTerms);
        test("0 is 0 / 1", TermsTest::zeroIs0Over1);
        test("all numbers stay below 2^62", TermsTest::greatNumbers);
        test("no question changes anything", TermsTest::questionsChangeNothing);
        test("a refused call changes nothing", TermsTest::refusedCallsChangeNothing);
        System.out.println(wrong == 0 ? "all answers are as due" : wrong + " answers are not as due");
        if (wrong != 0) {
            System.exit(1);
        }
    }

    private static void test(String name, Runnable body) {
        sentence = name;
        body.run();
    }

    private static void due(String call, long got, long want) {
        if (got != want) {
            wrong++;
            System.out.println("[" + sentence + "] " + call + " answered " + got + ", due is " + want);
        }
    }

    private static void dueTrue(String what, boolean holds) {
        if (!holds) {
            wrong++;
            System.out.println("[" + sentence + "] does not hold: " + what);
        }
    }

    private static void dueVoltage(NodalCircuit x, int p, long top, long bottom) {
        due("voltageTop(" + p + ")", x.voltageTop(p), top);
        due("voltageBottom(" + p + ")", x.voltageBottom(p), bottom);
    }

    private record Fraction(BigInteger top, BigInteger bottom) {
        static Fraction of(long top, long bottom) {
            return new Fraction(BigInteger.valueOf(top), BigInteger.valueOf(bottom));
        }

        Fraction plus(Fraction o) {
            return new Fraction(top.multiply(o.bottom).add(o.top.multiply(bottom)), bottom.multiply(o.bottom));
        }

        Fraction minus(Fraction o) {
            return plus(new Fraction(o.top.negate(), o.bottom));
        }

        Fraction times(long whole) {
            return new Fraction(top.multiply(BigInteger.valueOf(whole)), bottom);
        }

        boolean is(Fraction o) {
            return top.multiply(o.bottom).equals(o.top.multiply(bottom));
        }
    }

    private static Fraction voltage(NodalCircuit x, int p) {
        return Fraction.of(x.voltageTop(p), x.voltageBottom(p));
    }

    private static boolean isLowest(long top, long bottom) {
        return bottom > 0 && BigInteger.valueOf(top).gcd(BigInteger.valueOf(bottom)).equals(BigInteger.ONE);
    }

    /** A fixed choice of networks: for each n thin ones, thick ones, joined ones and others. */
    private static List<int[][]> networks() {
        List<int[][]> all = new ArrayList<>();
        long state = 62;
        for (int n = 2; n <= 6; n++) {
            for (int kind = 0; kind < 60; kind++) {
                int[][] values = new int[n][n];
                for (int p = 0; p < n; p++) {
                    for (int q = p + 1; q < n; q++) {
                        state = state * 6364136223846793005L + 1442695040888963407L;
                        int pick = (int) (state >>> 40) % 1000;
                        values[p][q] = pick % 4 < kind % 4 ? 0 : pick / 100;
                    }
                }
                all.add(values);
            }
        }
        return all;
    }

    private static NodalCircuit made(int[][] values) {
        NodalCircuit x = new NodalCircuit(values.length);
        for (int p = 0; p < values.length; p++) {
            for (int q = p + 1; q < values.length; q++) {
                x.join(p, q, values[p][q]);
            }
        }
        return x;
    }

    private static NodalCircuit full(int n, int value) {
        NodalCircuit x = new NodalCircuit(n);
        for (int p = 0; p < n; p++) {
            for (int q = p + 1; q < n; q++) {
                x.join(p, q, value);
            }
        }
        return x;
    }

    private static void the512thCall() {
        NodalCircuit x = new NodalCircuit(6);
        int before = 0;
        for (int call = 1; call <= 510; call++) {
            int value = call % 10;
            due("call " + call + ", join", x.join(5, 0, value), before);
            before = value;
        }
        due("call 511, chain", x.chain(0, 5, 2), 0);
        due("call 512, trees", x.trees(), 32);
        NodalCircuit y = new NodalCircuit(2);
        y.join(0, 1, 3);
        for (int call = 2; call <= 511; call++) {
            due("call " + call + ", currentTop", y.currentTop(), 3);
        }
        due("call 512, join", y.join(1, 0, 4), 3);
    }

    private static void pointsFrom0ToNMinus1() {
        for (int n = 2; n <= 6; n++) {
            for (int p = -1; p <= 7; p++) {
                boolean good = p >= 0 && p < n;
                NodalCircuit x = full(n, 1);
                int other = p == 0 ? 1 : 0;
                dueTrue("join, " + p + " of " + n, x.join(p, other, 1) == -1 != good);
                dueTrue("join, q " + p + " of " + n, x.join(other, p, 1) == -1 != good);
                dueTrue("chain, " + p + " of " + n, x.chain(p, 1, 1) == -1 != good);
                dueTrue("probe, " + p + " of " + n, x.probe(p, other) == -1 != good);
                dueTrue("probe, drain " + p + " of " + n, x.probe(other, p) == -1 != good);
                dueTrue("conductance, " + p + " of " + n, x.conductance(p, other) == -1 != good);
                dueTrue("conductance, q " + p + " of " + n, x.conductance(other, p) == -1 != good);
                dueTrue("joined, " + p + " of " + n, x.joined(p, other) == -1 != good);
                dueTrue("joined, q " + p + " of " + n, x.joined(other, p) == -1 != good);
                dueTrue("voltageTop, " + p + " of " + n, x.voltageTop(p) == -1 != good);
                dueTrue("voltageBottom, " + p + " of " + n, x.voltageBottom(p) == -1 != good);
                dueTrue("resistanceTop, " + p + " of " + n, x.resistanceTop(p, other) == -1 != good);
                dueTrue("resistanceTop, q " + p + " of " + n, x.resistanceTop(other, p) == -1 != good);
                dueTrue("resistanceBottom, " + p + " of " + n, x.resistanceBottom(p, other) == -1 != good);
                dueTrue("resistanceBottom, q " + p + " of " + n, x.resistanceBottom(other, p) == -1 != good);
                dueTrue("treesWith, " + p + " of " + n, x.treesWith(p, other) == -1 != good);
                dueTrue("treesWith, q " + p + " of " + n, x.treesWith(other, p) == -1 != good);
                x.probe(0, n - 1);
                if (p != 0) {
                    dueTrue("flowTop, " + p + " of " + n, x.flowTop(0, p) == 0 != good);
                    dueTrue("flowTop, q " + p + " of " + n, x.flowTop(p, 0) == 0 != good);
                }
            }
        }
    }

    private static void everyConductance() {
        for (int n = 2; n <= 6; n++) {
            for (int value = 0; value <= 9; value++) {
                NodalCircuit x = full(n, value);
                for (int p = 0; p < n; p++) {
                    for (int q = 0; q < n; q++) {
                        due("conductance", x.conductance(p, q), p == q ? 0 : value);
                    }
                }
            }
        }
    }

    private static void conductances0AtFirst() {
        for (int n = 2; n <= 6; n++) {
            NodalCircuit x = new NodalCircuit(n);
            for (int p = 0; p < n; p++) {
                for (int q = 0; q < n; q++) {
                    due("conductance(" + p + ", " + q + ") of " + n, x.conductance(p, q), 0);
                }
            }
            for (int p = 0; p < n; p++) {
                for (int q = p + 1; q < n; q++) {
                    due("join(" + p + ", " + q + ", 3) of " + n, x.join(p, q, 3), 0);
                }
            }
        }
    }

    private static void noneToItself() {
        for (int n = 2; n <= 6; n++) {
            NodalCircuit x = full(n, 9);
            x.chain(n - 1, 6, 8);
            for (int p = 0; p < n; p++) {
                due("join to itself", x.join(p, p, 5), -2);
                due("conductance to itself", x.conductance(p, p), 0);
                due("flow to itself", x.flowTop(p, p), 0);
            }
        }
    }

    private static void joinedOver1NotOver0() {
        for (int n = 2; n <= 6; n++) {
            for (int p = 0; p < n; p++) {
                for (int q = 0; q < n; q++) {
                    if (p != q) {
                        NodalCircuit x = new NodalCircuit(n);
                        due("joined over none", x.joined(p, q), 0);
                        x.join(p, q, 1);
                        due("joined over 1", x.joined(p, q), 1);
                        due("groups over 1", x.parts(), n - 1);
                        x.join(p, q, 9);
                        due("joined over 9", x.joined(q, p), 1);
                        x.join(p, q, 0);
                        due("joined over 0", x.joined(p, q), 0);
                        due("groups over 0", x.parts(), n);
                    }
                }
            }
        }
    }

    private static void joinedToItself() {
        for (int n = 2; n <= 6; n++) {
            for (int p = 0; p < n; p++) {
                NodalCircuit x = new NodalCircuit(n);
                due("joined alone", x.joined(p, p), 1);
                due("resistance alone", x.resistanceTop(p, p), 0);
                due("resistance alone", x.resistanceBottom(p, p), 1);
            }
        }
    }

    private static void noTreeIfNotAllJoined() {
        for (int[][] values : networks()) {
            NodalCircuit x = made(values);
            int n = values.length;
            dueTrue("trees if and only if one group", x.trees() > 0 == (x.parts() == 1));
            if (x.parts() > 1) {
                due("trees", x.trees(), 0);
                for (int p = 0; p < n; p++) {
                    for (int q = p + 1; q < n; q++) {
                        due("treesWith", x.treesWith(p, q), 0);
                    }
                }
            }
        }
    }

    private static void probesAtFirst() {
        for (int n = 2; n <= 6; n++) {
            NodalCircuit x = new NodalCircuit(n);
            x.chain(0, n - 1, 3);
            dueVoltage(x, 0, 1, 1);
            for (int p = 1; p < n; p++) {
                dueVoltage(x, p, 0, 1);
            }
            due("flowTop(0, 1)", x.flowTop(0, 1), 3);
            due("currentTop()", x.currentTop(), 3);
        }
    }

    private static void voltageWhereJoined() {
        for (int[][] values : networks()) {
            int n = values.length;
            for (int s = 0; s < n; s++) {
                NodalCircuit x = made(values);
                int d = (s + 1) % n;
                x.probe(s, d);
                for (int p = 0; p < n; p++) {
                    boolean probesJoined = x.joined(s, d) == 1;
                    boolean joined = probesJoined && x.joined(s, p) == 1;
                    long want = probesJoined ? -3 : -2;
                    dueTrue("voltageTop where joined", x.voltageTop(p) >= 0 == joined);
                    dueTrue("voltageBottom where joined", x.voltageBottom(p) > 0 == joined);
                    if (!joined) {
                        dueVoltage(x, p, want, want);
                    }
                }
            }
        }
    }

    private static void voltagesOfProbes() {
        for (int[][] values : networks()) {
            int n = values.length;
            for (int s = 0; s < n; s++) {
                for (int d = 0; d < n; d++) {
                    NodalCircuit x = made(values);
                    if (s != d && x.joined(s, d) == 1) {
                        x.probe(s, d);
                        dueVoltage(x, s, 1, 1);
                        dueVoltage(x, d, 0, 1);
                    }
                }
            }
        }
    }

    private static void sumsAtOtherPoints() {
        for (int[][] values : networks()) {
            int n = values.length;
            for (int s = 0; s < n; s++) {
                int d = (s + n - 1) % n;
                NodalCircuit x = made(values);
                x.probe(s, d);
                for (int p = 0; p < n; p++) {
                    if (p != s && p != d && x.voltageBottom(p) > 0) {
                        Fraction sum = sumAt(x, p);
                        dueTrue("the sum at " + p + " is 0", sum.is(Fraction.of(0, 1)));
                        dueTrue("the flows from " + p + " are 0", flowsFrom(x, p).is(Fraction.of(0, 1)));
                    }
                }
            }
        }
    }

    /** The sum over all q of (conductance between p and q) times (voltage of p minus voltage of q). */
    private static Fraction sumAt(NodalCircuit x, int p) {
        Fraction sum = Fraction.of(0, 1);
        for (int q = 0; q < x.points(); q++) {
            int value = x.conductance(p, q);
            if (value > 0) {
                sum = sum.plus(voltage(x, p).minus(voltage(x, q)).times(value));
            }
        }
        return sum;
    }

    private static Fraction flowsFrom(NodalCircuit x, int p) {
        Fraction sum = Fraction.of(0, 1);
        for (int q = 0; q < x.points(); q++) {
            sum = sum.plus(Fraction.of(x.flowTop(p, q), x.flowBottom(p, q)));
        }
        return sum;
    }

    private static void currentIsSumAtSource() {
        for (int[][] values : networks()) {
            int n = values.length;
            for (int s = 0; s < n; s++) {
                int d = (s + n / 2) % n;
                NodalCircuit x = made(values);
                x.probe(s, d);
                if (x.joined(s, d) == 1) {
                    Fraction current = Fraction.of(x.currentTop(), x.currentBottom());
                    dueTrue("the sum at the source", sumAt(x, s).is(current));
                    dueTrue("the flows from the source", flowsFrom(x, s).is(current));
                    dueTrue("the flows to the drain", flowsFrom(x, d).times(-1).is(current));
                }
            }
        }
    }

    private static void lowestTerms() {
        for (int[][] values : networks()) {
            int n = values.length;
            NodalCircuit x = made(values);
            x.probe(n - 1, 0);
            dueTrue("current", isLowest(x.currentTop(), x.currentBottom()));
            for (int p = 0; p < n; p++) {
                if (x.voltageTop(p) >= 0) {
                    dueTrue("voltage", isLowest(x.voltageTop(p), x.voltageBottom(p)));
                }
                for (int q = 0; q < n; q++) {
                    dueTrue("flow", isLowest(x.flowTop(p, q), x.flowBottom(p, q)));
                    if (x.joined(p, q) == 1) {
                        dueTrue("resistance", isLowest(x.resistanceTop(p, q), x.resistanceBottom(p, q)));
                    }
                }
            }
        }
    }

    private static void zeroIs0Over1() {
        for (int n = 2; n <= 6; n++) {
            NodalCircuit x = full(n, 6);
            due("voltage of the drain", x.voltageTop(1), 0);
            due("voltage of the drain", x.voltageBottom(1), 1);
            for (int p = 0; p < n; p++) {
                due("flow to itself", x.flowTop(p, p), 0);
                due("flow to itself", x.flowBottom(p, p), 1);
                due("resistance to itself", x.resistanceTop(p, p), 0);
                due("resistance to itself", x.resistanceBottom(p, p), 1);
            }
            due("current of none", new NodalCircuit(n).currentTop(), 0);
            due("current of none", new NodalCircuit(n).currentBottom(), 1);
        }
    }

    /** Six points with great conductances that have few common divisors. */
    private static void greatNumbers() {
        int[][] values = {
            {0, 9, 8, 7, 9, 8}, {0, 0, 9, 8, 7, 9}, {0, 0, 0, 9, 9, 8},
            {0, 0, 0, 0, 9, 7}, {0, 0, 0, 0, 0, 9}, {0, 0, 0, 0, 0, 0}};
        long limit = 1L << 62;
        NodalCircuit x = made(values);
        long withEach = 0;
        for (int p = 0; p < 6; p++) {
            for (int q = p + 1; q < 6; q++) {
                withEach += x.treesWith(p, q);
                dueTrue("resistance", x.resistanceTop(p, q) > 0 && x.resistanceBottom(p, q) < limit);
                // A pair is in the share of all trees that its conductance times its resistance is.
                Fraction share = Fraction.of(x.resistanceTop(p, q), x.resistanceBottom(p, q)).times(values[p][q]);
                dueTrue("share of the trees", share.is(Fraction.of(x.treesWith(p, q), x.trees())));
            }
        }
        due("each tree has five pairs", withEach, 5 * x.trees());
        dueTrue("trees", x.trees() > 0 && x.trees() < limit);
    }

    private static final int QUESTIONS = 15;

    private static long ask(NodalCircuit x, int question, int p, int q) {
        return switch (question) {
            case 0 -> x.points();
            case 1 -> x.conductance(p, q);
            case 2 -> x.joined(p, q);
            case 3 -> x.parts();
            case 4 -> x.trees();
            case 5 -> x.voltageTop(p);
            case 6 -> x.voltageBottom(p);
            case 7 -> x.currentTop();
            case 8 -> x.currentBottom();
            case 9 -> x.resistanceTop(p, q);
            case 10 -> x.resistanceBottom(p, q);
            case 11 -> x.flowTop(p, q);
            case 12 -> x.flowBottom(p, q);
            case 13 -> x.treesWith(p, q);
            default -> x.bridges();
        };
    }

    private static boolean needsPoints(int question) {
        return question != 0 && question != 3 && question != 4 && question != 7 && question != 8 && question != 14;
    }

    private static NodalCircuit probed(int[][] values) {
        NodalCircuit x = made(values);
        x.probe(values.length - 1, values.length / 2 - 1);
        return x;
    }

    /** One question, with all points, to x and to a twin to which nothing else was said. */
    private static void dueAsTwin(String after, NodalCircuit x, NodalCircuit twin, int question) {
        int n = twin.points();
        for (int p = 0; p < n; p++) {
            for (int q = p; q < n; q++) {
                if (needsPoints(question) || p + q == 0) {
                    due("after " + after + " question " + question + " of " + p + ", " + q,
                        ask(x, question, p, q), ask(twin, question, p, q));
                }
            }
        }
    }

    /** Made full, the network shows where the probes are even if they were apart. */
    private static void dueProbesOfProbed(NodalCircuit x) {
        int n = x.points();
        for (int p = 0; p < n; p++) {
            for (int q = p + 1; q < n; q++) {
                x.join(p, q, 1);
            }
        }
        for (int p = 0; p < n; p++) {
            boolean source = p == n - 1;
            boolean drain = p == n / 2 - 1;
            dueVoltage(x, p, drain ? 0 : 1, source || drain ? 1 : 2);
        }
    }

    private static NodalCircuit questioned(int[][] values, int question) {
        NodalCircuit x = probed(values);
        int n = values.length;
        for (int p = -1; p <= n; p++) {
            ask(x, question, p, n - 1);
            ask(x, question, 0, p);
            ask(x, question, p, p);
        }
        return x;
    }

    /** Each question by itself, with good points and with bad ones, and after it one other. */
    private static void questionsChangeNothing() {
        List<int[][]> networks = networks();
        for (int i = 0; i < networks.size(); i += 3) {
            int[][] values = networks.get(i);
            for (int first = 0; first < QUESTIONS; first++) {
                for (int second = 0; second < QUESTIONS; second++) {
                    dueAsTwin("question " + first, questioned(values, first), probed(values), second);
                }
                dueProbesOfProbed(questioned(values, first));
            }
        }
    }

    private static void refusedCallsChangeNothing() {
        for (int[][] values : networks()) {
            for (int question = 0; question < QUESTIONS; question++) {
                dueAsTwin("refused joins", refusedJoins(values), probed(values), question);
                dueAsTwin("refused chains", refusedChains(values), probed(values), question);
                dueAsTwin("refused probes", refusedProbes(values), probed(values), question);
            }
            dueProbesOfProbed(refusedJoins(values));
            dueProbesOfProbed(refusedChains(values));
            dueProbesOfProbed(refusedProbes(values));
        }
    }

    private static NodalCircuit refusedJoins(int[][] values) {
        NodalCircuit x = probed(values);
        int n = values.length;
        due("join", x.join(n, 0, 1), -1);
        due("join", x.join(0, -1, 1), -1);
        due("join", x.join(1, 1, 1), -2);
        due("join", x.join(0, 1, 10), -3);
        due("join", x.join(1, 0, -1), -3);
        return x;
    }

    private static NodalCircuit refusedChains(int[][] values) {
        NodalCircuit x = probed(values);
        int n = values.length;
        due("chain", x.chain(n, 1, 1), -1);
        due("chain", x.chain(-1, 1, 1), -1);
        due("chain", x.chain(0, 0, 1), -2);
        due("chain", x.chain(0, 7, 1), -2);
        due("chain", x.chain(0, 6, 10), -3);
        due("chain", x.chain(0, 6, -1), -3);
        return x;
    }

    private static NodalCircuit refusedProbes(int[][] values) {
        NodalCircuit x = probed(values);
        int n = values.length;
        due("probe", x.probe(n, 0), -1);
        due("probe", x.probe(0, n), -1);
        due("probe", x.probe(-1, 1), -1);
        due("probe", x.probe(1, -1), -1);
        due("probe", x.probe(0, 0), -2);
        due("probe", x.probe(1, 1), -2);
        return x;
    }
}
