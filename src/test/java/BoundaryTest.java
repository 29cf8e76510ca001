import java.util.function.IntFunction;
import java.util.function.ToLongFunction;

/** For each sentence of promises 1 to 19 that names a boundary case, a test of its own. */
public final class BoundaryTest {
    private static final int[] NO_VALUES = {-1, 10, 11, -9, 256, 265, Integer.MIN_VALUE, Integer.MAX_VALUE};
    private static final int[] NO_COUNTS = {0, -1, 7, 8, -6, 256, 257, Integer.MIN_VALUE, Integer.MAX_VALUE};
    private static String sentence = "";
    private static int wrong = 0;

    public static void main(String[] args) {
        promises1To5();
        promises6To9();
        promises10To15();
        promises16To19();
        System.out.println(wrong == 0 ? "all answers are as due" : wrong + " answers are not as due");
        if (wrong != 0) {
            System.exit(1);
        }
    }

    private static void promises1To5() {
        test("1: below 2 becomes 2", BoundaryTest::below2Becomes2);
        test("1: above 6 becomes 6", BoundaryTest::above6Becomes6);
        test("1: 2 .. 6 stay", BoundaryTest::from2To6Stay);
        test("2: n, whatever was done", BoundaryTest::pointsStay);
        test("3: -1 if p or q is not good", BoundaryTest::joinBadPoint);
        test("3: -2 if they are the same", BoundaryTest::joinSamePoint);
        test("3: -3 if value is not in 0 .. 9", BoundaryTest::joinBadValue);
        test("3: values 0 and 9 are taken", BoundaryTest::joinLeastAndGreatestValue);
        test("3: answers the one before", BoundaryTest::joinAnswersTheOneBefore);
        test("3: tests in the order named", BoundaryTest::joinOrder);
        test("4: -1 if p is not good", BoundaryTest::chainBadPoint);
        test("4: -2 if count is not in 1 .. 6", BoundaryTest::chainBadCount);
        test("4: -3 if value is not in 0 .. 9", BoundaryTest::chainBadValue);
        test("4: tests in the order named", BoundaryTest::chainOrder);
        test("4: values 0 and 9 are taken", BoundaryTest::chainLeastAndGreatestValue);
        test("4: count of them, all numbers modulo n", BoundaryTest::chainModuloN);
        test("4: except between a point and itself", BoundaryTest::chainNeverToItself);
        test("5: -1 if source or drain is not good", BoundaryTest::probeBadPoint);
        test("5: -2 if they are the same", BoundaryTest::probeSamePoint);
        test("5: tests in the order named", BoundaryTest::probeOrder);
        test("5: any two different points are taken", BoundaryTest::probeEveryPair);
    }

    private static void promises6To9() {
        test("6: -1 if p or q is not good", BoundaryTest::conductanceBadPoint);
        test("6: 0 if they are the same", BoundaryTest::conductanceSamePoint);
        test("6: tests in the order named", BoundaryTest::conductanceOrder);
        test("7: -1 if p or q is not good", BoundaryTest::joinedBadPoint);
        test("7: 1 for a point and itself", BoundaryTest::joinedToItself);
        test("7: 1 over as many conductances as there can be", BoundaryTest::joinedOverLongestPath);
        test("7: otherwise 0", BoundaryTest::joinedOtherwise0);
        test("8: n groups if none are joined", BoundaryTest::partsOfEmpty);
        test("8: one group if all are joined", BoundaryTest::partsOfAllJoined);
        test("8: a point alone is a group", BoundaryTest::partsWithOnePointAlone);
        test("9: 0 if not all are joined", BoundaryTest::treesNotAllJoined);
        test("9: the one tree of two points", BoundaryTest::treesOfTwoPoints);
        test("9: one tree alone", BoundaryTest::treesOneTree);
        test("9: the greatest sum", BoundaryTest::treesGreatest);
    }

    private static void promises10To15() {
        test("10, 11: -1 if p is not good", BoundaryTest::voltageBadPoint);
        test("10, 11: -2 if the probes are not joined", BoundaryTest::voltageProbesApart);
        test("10, 11: -3 if p is not joined to them", BoundaryTest::voltagePointApart);
        test("10, 11: -1 before -2", BoundaryTest::voltageBadPointFirst);
        test("10, 11: -2 before -3", BoundaryTest::voltageProbesApartSecond);
        test("10, 11: the source's is 1 / 1, the drain's 0 / 1", BoundaryTest::voltageOfProbes);
        test("10, 11: 0 / 1 and 1 / 1 behind a probe", BoundaryTest::voltageBehindProbes);
        test("12: 0 if the probes are not joined", BoundaryTest::currentTopProbesApart);
        test("13: 1 if the probes are not joined", BoundaryTest::currentBottomProbesApart);
        test("12, 13: the least and the greatest current", BoundaryTest::currentLeastAndGreatest);
        test("14: 0 for the same point", BoundaryTest::resistanceTopSamePoint);
        test("15: 1 for the same point", BoundaryTest::resistanceBottomSamePoint);
        test("14, 15: -1 if p or q is not good", BoundaryTest::resistanceBadPoint);
        test("14, 15: -2 if they are not joined", BoundaryTest::resistanceApart);
        test("14, 15: tests in the order named", BoundaryTest::resistanceOrder);
        test("14, 15: with the probes there, wherever they are", BoundaryTest::resistanceWithProbesThere);
        test("14, 15: the least and the greatest resistance", BoundaryTest::resistanceLeastAndGreatest);
    }

    private static void promises16To19() {
        test("16, 17: 0 and 1 if p or q is not good", BoundaryTest::flowBadPoint);
        test("16, 17: 0 and 1 if the probes are not joined", BoundaryTest::flowProbesApart);
        test("16, 17: 0 and 1 if p or q is not joined to them", BoundaryTest::flowPointApart);
        test("16: it may be negative", BoundaryTest::flowNegative);
        test("16, 17: 0 / 1 from a point to itself", BoundaryTest::flowToItself);
        test("16, 17: 0 / 1 over a conductance of 0", BoundaryTest::flowOverNothing);
        test("16, 17: 0 / 1 between equal voltages", BoundaryTest::flowBetweenEqualVoltages);
        test("18: -1 if p or q is not good", BoundaryTest::treesWithBadPoint);
        test("18: -2 if they are the same", BoundaryTest::treesWithSamePoint);
        test("18: tests in the order named", BoundaryTest::treesWithOrder);
        test("18: 0 for a pair without a conductance", BoundaryTest::treesWithPairOf0);
        test("18: 0 if not all are joined", BoundaryTest::treesWithNotAllJoined);
        test("18: every tree has a bridge", BoundaryTest::treesWithBridge);
        test("18: the greatest sum", BoundaryTest::treesWithGreatest);
        test("19: none if no pair has a conductance", BoundaryTest::bridgesOfEmpty);
        test("19: as many as there can be", BoundaryTest::bridgesOfPathAndStar);
        test("19: none in rings of any length", BoundaryTest::bridgesOfRings);
        test("19: more groups, not just two", BoundaryTest::bridgesInGroupsApart);
        test("19: alone", BoundaryTest::bridgesOnePairAlone);
    }

    private static void test(String name, Runnable body) {
        sentence = name;
        body.run();
    }

    private static void due(String call, long got, long want) {
        if (got != want) {
            wrong++;
            System.out.println("[" + sentence + "] " + call + " answered " + got + ", due is " + want);
        }
    }

    private static void dueVoltage(NodalCircuit x, int p, long top, long bottom) {
        due("voltageTop(" + p + ")", x.voltageTop(p), top);
        due("voltageBottom(" + p + ")", x.voltageBottom(p), bottom);
    }

    private static void dueCurrent(NodalCircuit x, long top, long bottom) {
        due("currentTop()", x.currentTop(), top);
        due("currentBottom()", x.currentBottom(), bottom);
    }

    private static void dueResistance(NodalCircuit x, int p, int q, long top, long bottom) {
        due("resistanceTop(" + p + ", " + q + ")", x.resistanceTop(p, q), top);
        due("resistanceBottom(" + p + ", " + q + ")", x.resistanceBottom(p, q), bottom);
    }

    private static void dueFlow(NodalCircuit x, int p, int q, long top, long bottom) {
        due("flowTop(" + p + ", " + q + ")", x.flowTop(p, q), top);
        due("flowBottom(" + p + ", " + q + ")", x.flowBottom(p, q), bottom);
    }

    // Networks of n points, from thin to thick

    private static NodalCircuit empty(int n) {
        return new NodalCircuit(n);
    }

    /** 0 to n - 1 in a row, probes at the ends, the source last. */
    private static NodalCircuit row(int n) {
        NodalCircuit x = new NodalCircuit(n);
        for (int p = 0; p + 1 < n; p++) {
            x.join(p, p + 1, p + 1);
        }
        x.probe(n - 1, 0);
        return x;
    }

    /** Probes 1 and 0 joined, and every other point alone. */
    private static NodalCircuit probesAlone(int n) {
        NodalCircuit x = new NodalCircuit(n);
        x.join(0, 1, 7);
        x.probe(1, 0);
        return x;
    }

    /** All points joined but the last, which is the drain. */
    private static NodalCircuit drainAlone(int n) {
        NodalCircuit x = new NodalCircuit(n);
        for (int p = 0; p + 2 < n; p++) {
            x.join(p, p + 1, 3);
        }
        x.probe(0, n - 1);
        return x;
    }

    private static NodalCircuit full(int n) {
        return fullOf(n, 9);
    }

    private static NodalCircuit fullOf(int n, int value) {
        NodalCircuit x = new NodalCircuit(n);
        for (int p = 0; p < n; p++) {
            for (int q = p + 1; q < n; q++) {
                x.join(p, q, value);
            }
        }
        return x;
    }

    private static NodalCircuit ringOf(int n, int length) {
        NodalCircuit x = new NodalCircuit(n);
        for (int p = 0; p < length; p++) {
            x.join(p, p + 1 == length ? 0 : p + 1, 1 + p);
        }
        return x;
    }

    private static int[] badPoints(int n) {
        return new int[] {-1, -n, n, n + 1, 6, 7, 12, 32, 36, 64, 256, 65536,
            Integer.MIN_VALUE, Integer.MIN_VALUE + 1, Integer.MAX_VALUE};
    }

    /** A call that is refused with the answer that is due, and leaves every network as it was. */
    private static void refused(int n, String call, ToLongFunction<NodalCircuit> ask, long want) {
        refusedBy(n, call, BoundaryTest::empty, ask, want);
        refusedBy(n, call, BoundaryTest::row, ask, want);
        refusedBy(n, call, BoundaryTest::probesAlone, ask, want);
        refusedBy(n, call, BoundaryTest::drainAlone, ask, want);
        refusedBy(n, call, BoundaryTest::full, ask, want);
    }

    private static void refusedBy(
            int n, String call, IntFunction<NodalCircuit> make, ToLongFunction<NodalCircuit> ask, long want) {
        NodalCircuit asked = make.apply(n);
        NodalCircuit left = make.apply(n);
        due(call + " of " + n + " points", ask.applyAsLong(asked), want);
        for (int p = 0; p < n; p++) {
            for (int q = 0; q < n; q++) {
                due("after " + call + " conductance", asked.conductance(p, q), left.conductance(p, q));
            }
        }
        due("after " + call + " points", asked.points(), left.points());
        // Full, the network shows by its voltages where the probes are.
        for (int p = 0; p < n; p++) {
            for (int q = p + 1; q < n; q++) {
                asked.join(p, q, 1);
                left.join(p, q, 1);
            }
        }
        for (int p = 0; p < n; p++) {
            dueVoltage(asked, p, left.voltageTop(p), left.voltageBottom(p));
        }
    }

    // Promises 1 and 2

    private static void dueSize(int asked, int n) {
        NodalCircuit x = new NodalCircuit(asked);
        due("new " + asked + ", points", x.points(), n);
        due("new " + asked + ", groups", x.parts(), n);
        due("new " + asked + ", the last point", x.conductance(n - 1, 0), 0);
        due("new " + asked + ", one more point", x.conductance(n, 0), -1);
        due("new " + asked + ", a row of all", x.chain(0, n - 1, 1), 0);
        due("new " + asked + ", joined", x.parts(), 1);
        due("new " + asked + ", tree", x.trees(), 1);
    }

    private static void below2Becomes2() {
        for (int asked : new int[] {1, 0, -1, -2, -6, -100, Integer.MIN_VALUE}) {
            dueSize(asked, 2);
        }
    }

    private static void above6Becomes6() {
        for (int asked : new int[] {7, 8, 12, 100, 258, 65540, Integer.MAX_VALUE}) {
            dueSize(asked, 6);
        }
    }

    private static void from2To6Stay() {
        for (int n = 2; n <= 6; n++) {
            dueSize(n, n);
        }
    }

    private static void pointsStay() {
        for (int n = 2; n <= 6; n++) {
            due("points()", empty(n).points(), n);
            due("points() of a row", row(n).points(), n);
            due("points() of all", full(n).points(), n);
            due("points() with the drain alone", drainAlone(n).points(), n);
        }
    }

    // Promise 3

    private static void joinBadPoint() {
        for (int n = 2; n <= 6; n++) {
            for (int bad : badPoints(n)) {
                for (int good : new int[] {0, n - 1}) {
                    refused(n, "join(" + bad + ", " + good + ", 5)", x -> x.join(bad, good, 5), -1);
                    refused(n, "join(" + good + ", " + bad + ", 5)", x -> x.join(good, bad, 5), -1);
                }
            }
        }
    }

    private static void joinSamePoint() {
        for (int n = 2; n <= 6; n++) {
            for (int same = 0; same < n; same++) {
                int p = same;
                for (int value : new int[] {0, 5, 9}) {
                    refused(n, "join(" + p + ", " + p + ", " + value + ")", x -> x.join(p, p, value), -2);
                }
            }
        }
    }

    private static void joinBadValue() {
        for (int n = 2; n <= 6; n++) {
            int last = n - 1;
            for (int value : NO_VALUES) {
                refused(n, "join(0, 1, " + value + ")", x -> x.join(0, 1, value), -3);
                refused(n, "join(" + last + ", 0, " + value + ")", x -> x.join(last, 0, value), -3);
            }
        }
    }

    private static void joinLeastAndGreatestValue() {
        for (int n = 2; n <= 6; n++) {
            for (int p = 0; p < n; p++) {
                for (int q = 0; q < n; q++) {
                    if (p != q) {
                        NodalCircuit x = new NodalCircuit(n);
                        due("join to 9", x.join(p, q, 9), 0);
                        due("9 is set", x.conductance(p, q), 9);
                        due("9 is set, turned", x.conductance(q, p), 9);
                        due("join to 0", x.join(p, q, 0), 9);
                        due("0 is set", x.conductance(p, q), 0);
                        due("0 is set, turned", x.conductance(q, p), 0);
                    }
                }
            }
        }
    }

    private static void joinAnswersTheOneBefore() {
        for (int n = 2; n <= 6; n++) {
            NodalCircuit x = new NodalCircuit(n);
            int last = n - 1;
            int before = 0;
            for (int value = 9; value >= 0; value--) {
                due("join to " + value, x.join(0, last, value), before);
                due("join to " + value + " again", x.join(0, last, value), value);
                due("join to " + value + ", turned", x.join(last, 0, value), value);
                before = value;
            }
        }
    }

    private static void joinOrder() {
        for (int n = 2; n <= 6; n++) {
            for (int bad : badPoints(n)) {
                refused(n, "join, the same bad point", x -> x.join(bad, bad, 5), -1);
                refused(n, "join, the same bad point and a bad value", x -> x.join(bad, bad, 10), -1);
                refused(n, "join, p bad and a bad value", x -> x.join(bad, 0, -1), -1);
                refused(n, "join, q bad and a bad value", x -> x.join(0, bad, 10), -1);
            }
            for (int value : NO_VALUES) {
                refused(n, "join, the same point and a bad value", x -> x.join(1, 1, value), -2);
            }
        }
    }

    // Promise 4

    private static void chainBadPoint() {
        for (int n = 2; n <= 6; n++) {
            for (int bad : badPoints(n)) {
                refused(n, "chain(" + bad + ", 1, 5)", x -> x.chain(bad, 1, 5), -1);
                refused(n, "chain(" + bad + ", 6, 5)", x -> x.chain(bad, 6, 5), -1);
            }
        }
    }

    private static void chainBadCount() {
        for (int n = 2; n <= 6; n++) {
            int last = n - 1;
            for (int count : NO_COUNTS) {
                refused(n, "chain(0, " + count + ", 5)", x -> x.chain(0, count, 5), -2);
                refused(n, "chain(" + last + ", " + count + ", 5)", x -> x.chain(last, count, 5), -2);
            }
        }
    }

    private static void chainBadValue() {
        for (int n = 2; n <= 6; n++) {
            int last = n - 1;
            for (int value : NO_VALUES) {
                refused(n, "chain(0, 1, " + value + ")", x -> x.chain(0, 1, value), -3);
                refused(n, "chain(" + last + ", 6, " + value + ")", x -> x.chain(last, 6, value), -3);
            }
        }
    }

    private static void chainOrder() {
        for (int n = 2; n <= 6; n++) {
            for (int bad : badPoints(n)) {
                refused(n, "chain, p and count bad", x -> x.chain(bad, 0, 5), -1);
                refused(n, "chain, p and value bad", x -> x.chain(bad, 1, 10), -1);
                refused(n, "chain, all bad", x -> x.chain(bad, 7, -1), -1);
            }
            for (int count : NO_COUNTS) {
                refused(n, "chain, count and value bad", x -> x.chain(0, count, 10), -2);
                refused(n, "chain, count and value bad, below", x -> x.chain(1, count, -1), -2);
            }
        }
    }

    private static void chainLeastAndGreatestValue() {
        for (int n = 2; n <= 6; n++) {
            NodalCircuit x = new NodalCircuit(n);
            due("chain of 9", x.chain(0, 1, 9), 0);
            due("9 is set", x.conductance(0, 1), 9);
            due("chain of 0", x.chain(0, 1, 0), 0);
            due("0 is set", x.conductance(0, 1), 0);
        }
    }

    /** Every start and every count: the links of the chain have the value, all other pairs what they had. */
    private static void chainModuloN() {
        for (int n = 2; n <= 6; n++) {
            for (int start = 0; start < n; start++) {
                for (int count = 1; count <= 6; count++) {
                    chainSetsItsLinks(n, start, count);
                }
            }
        }
    }

    private static void chainSetsItsLinks(int n, int start, int count) {
        NodalCircuit x = fullOf(n, 4);
        int[][] want = new int[n][n];
        for (int p = 0; p < n; p++) {
            for (int q = 0; q < n; q++) {
                want[p][q] = p == q ? 0 : 4;
            }
        }
        int from = start;
        for (int left = count; left > 0; left--) {
            int to = from == n - 1 ? 0 : from + 1;
            want[from][to] = 8;
            want[to][from] = 8;
            from = to;
        }
        String call = "chain(" + start + ", " + count + ", 8) of " + n + " points";
        due(call, x.chain(start, count, 8), 0);
        for (int p = 0; p < n; p++) {
            for (int q = 0; q < n; q++) {
                due("after " + call + " conductance(" + p + ", " + q + ")", x.conductance(p, q), want[p][q]);
            }
        }
    }

    private static void chainNeverToItself() {
        for (int n = 2; n <= 6; n++) {
            for (int start = 0; start < n; start++) {
                NodalCircuit x = new NodalCircuit(n);
                due("chain", x.chain(start, 6, 3), 0);
                for (int p = 0; p < n; p++) {
                    due("conductance to itself", x.conductance(p, p), 0);
                }
                due("trees of a ring", x.trees(), n == 2 ? 3 : n * Math.round(Math.pow(3, n - 1)));
            }
        }
    }

    // Promise 5

    private static void probeBadPoint() {
        for (int n = 2; n <= 6; n++) {
            for (int bad : badPoints(n)) {
                for (int good : new int[] {0, n - 1}) {
                    refused(n, "probe(" + bad + ", " + good + ")", x -> x.probe(bad, good), -1);
                    refused(n, "probe(" + good + ", " + bad + ")", x -> x.probe(good, bad), -1);
                }
            }
        }
    }

    private static void probeSamePoint() {
        for (int n = 2; n <= 6; n++) {
            for (int same = 0; same < n; same++) {
                int p = same;
                refused(n, "probe(" + p + ", " + p + ")", x -> x.probe(p, p), -2);
            }
        }
    }

    private static void probeOrder() {
        for (int n = 2; n <= 6; n++) {
            for (int bad : badPoints(n)) {
                refused(n, "probe, the same bad point", x -> x.probe(bad, bad), -1);
            }
        }
    }

    private static void probeEveryPair() {
        for (int n = 2; n <= 6; n++) {
            for (int s = 0; s < n; s++) {
                for (int d = 0; d < n; d++) {
                    if (s != d) {
                        probeTaken(full(n), s, d);
                        probeTaken(row(n), s, d);
                    }
                }
            }
        }
    }

    private static void probeTaken(NodalCircuit x, int s, int d) {
        due("probe(" + s + ", " + d + ")", x.probe(s, d), 0);
        dueVoltage(x, s, 1, 1);
        dueVoltage(x, d, 0, 1);
    }

    // Promise 6

    private static void conductanceBadPoint() {
        for (int n = 2; n <= 6; n++) {
            for (int bad : badPoints(n)) {
                for (int good : new int[] {0, n - 1}) {
                    refused(n, "conductance(" + bad + ", " + good + ")", x -> x.conductance(bad, good), -1);
                    refused(n, "conductance(" + good + ", " + bad + ")", x -> x.conductance(good, bad), -1);
                }
            }
        }
    }

    private static void conductanceSamePoint() {
        for (int n = 2; n <= 6; n++) {
            for (int p = 0; p < n; p++) {
                due("conductance in an empty network", empty(n).conductance(p, p), 0);
                due("conductance in a full network", full(n).conductance(p, p), 0);
            }
        }
    }

    private static void conductanceOrder() {
        for (int n = 2; n <= 6; n++) {
            for (int bad : badPoints(n)) {
                due("conductance, the same bad point", full(n).conductance(bad, bad), -1);
            }
        }
    }

    // Promise 7

    private static void joinedBadPoint() {
        for (int n = 2; n <= 6; n++) {
            for (int bad : badPoints(n)) {
                for (int good : new int[] {0, n - 1}) {
                    refused(n, "joined(" + bad + ", " + good + ")", x -> x.joined(bad, good), -1);
                    refused(n, "joined(" + good + ", " + bad + ")", x -> x.joined(good, bad), -1);
                }
                refused(n, "joined, the same bad point", x -> x.joined(bad, bad), -1);
            }
        }
    }

    private static void joinedToItself() {
        for (int n = 2; n <= 6; n++) {
            for (int p = 0; p < n; p++) {
                due("joined in an empty network", empty(n).joined(p, p), 1);
                due("joined in a full network", full(n).joined(p, p), 1);
            }
        }
    }

    /** All 720 orders of six points in a row, so that no order of looking at the pairs helps. */
    private static void joinedOverLongestPath() {
        for (int code = 0; code < 720; code++) {
            int[] order = orderOf(code);
            NodalCircuit x = new NodalCircuit(6);
            for (int i = 0; i < 5; i++) {
                x.join(order[i], order[i + 1], 1);
            }
            due("joined over five", x.joined(order[0], order[5]), 1);
            due("joined over five, turned", x.joined(order[5], order[0]), 1);
            due("groups", x.parts(), 1);
            due("bridges", x.bridges(), 5);
            due("resistance over five", x.resistanceTop(order[0], order[5]), 5);
        }
    }

    private static int[] orderOf(int code) {
        int[] order = {0, 1, 2, 3, 4, 5};
        int rest = code;
        for (int i = 5; i > 0; i--) {
            int other = rest % (i + 1);
            rest /= i + 1;
            int swapped = order[i];
            order[i] = order[other];
            order[other] = swapped;
        }
        return order;
    }

    private static void joinedOtherwise0() {
        for (int n = 2; n <= 6; n++) {
            for (int p = 0; p < n; p++) {
                NodalCircuit x = full(n);
                for (int q = 0; q < n; q++) {
                    due("joined in an empty network", empty(n).joined(p, q), p == q ? 1 : 0);
                    x.join(p, q, 0);
                }
                for (int q = 0; q < n; q++) {
                    due("joined to a point alone", x.joined(q, p), p == q ? 1 : 0);
                    due("joined from a point alone", x.joined(p, q), p == q ? 1 : 0);
                }
            }
        }
    }

    // Promise 8

    private static void partsOfEmpty() {
        for (int n = 2; n <= 6; n++) {
            NodalCircuit x = empty(n);
            due("parts() at first", x.parts(), n);
            x.chain(0, 6, 9);
            x.chain(0, 6, 0);
            due("parts() after all was taken away", x.parts(), n);
        }
    }

    private static void partsOfAllJoined() {
        for (int n = 2; n <= 6; n++) {
            due("parts() of a row", row(n).parts(), 1);
            due("parts() of a ring", ringOf(n, n).parts(), 1);
            due("parts() of all pairs", full(n).parts(), 1);
        }
    }

    private static void partsWithOnePointAlone() {
        for (int n = 2; n <= 6; n++) {
            for (int p = 0; p < n; p++) {
                due("parts() with " + p + " alone", fullWithout(n, p).parts(), 2);
            }
            due("parts() with the drain alone", drainAlone(n).parts(), 2);
            due("parts() with one pair", probesAlone(n).parts(), n - 1);
        }
    }

    private static NodalCircuit fullWithout(int n, int alone) {
        NodalCircuit x = full(n);
        for (int q = 0; q < n; q++) {
            x.join(alone, q, 0);
        }
        return x;
    }

    // Promise 9

    private static void treesNotAllJoined() {
        for (int n = 2; n <= 6; n++) {
            due("trees() of an empty network", empty(n).trees(), 0);
            for (int p = 0; p < n; p++) {
                due("trees() with " + p + " alone", fullWithout(n, p).trees(), 0);
            }
        }
        NodalCircuit halves = new NodalCircuit(6);
        for (int p = 0; p < 3; p++) {
            for (int q = p + 1; q < 3; q++) {
                halves.join(2 * p, 2 * q, 9);
                halves.join(2 * p + 1, 2 * q + 1, 9);
            }
        }
        due("trees() of two halves", halves.trees(), 0);
    }

    private static void treesOfTwoPoints() {
        NodalCircuit x = new NodalCircuit(2);
        for (int value = 0; value <= 9; value++) {
            x.join(1, 0, value);
            due("trees() of two points", x.trees(), value);
        }
    }

    private static void treesOneTree() {
        long product = 1;
        for (int n = 2; n <= 6; n++) {
            product *= n - 1;
            due("trees() of a row", row(n).trees(), product);
        }
    }

    private static void treesGreatest() {
        due("trees() of 2", full(2).trees(), 9);
        due("trees() of 3", full(3).trees(), 3 * 81);
        due("trees() of 4", full(4).trees(), 16 * 729);
        due("trees() of 5", full(5).trees(), 125 * 6561);
        due("trees() of 6", full(6).trees(), 1296L * 59049);
    }

    // Promises 10 and 11

    private static void voltageBadPoint() {
        for (int n = 2; n <= 6; n++) {
            for (int bad : badPoints(n)) {
                refused(n, "voltageTop(" + bad + ")", x -> x.voltageTop(bad), -1);
                refused(n, "voltageBottom(" + bad + ")", x -> x.voltageBottom(bad), -1);
            }
        }
    }

    private static void voltageProbesApart() {
        for (int n = 2; n <= 6; n++) {
            for (int p = 0; p < n; p++) {
                dueVoltage(empty(n), p, -2, -2);
                dueVoltage(drainAlone(n), p, -2, -2);
                NodalCircuit sourceAlone = drainAlone(n);
                sourceAlone.probe(n - 1, 0);
                dueVoltage(sourceAlone, p, -2, -2);
                NodalCircuit cut = row(n);
                cut.join(n - 1, n - 2, 0);
                dueVoltage(cut, p, -2, -2);
            }
        }
    }

    private static void voltagePointApart() {
        for (int n = 3; n <= 6; n++) {
            for (int p = 2; p < n; p++) {
                dueVoltage(probesAlone(n), p, -3, -3);
                NodalCircuit others = probesAlone(n);
                for (int q = 2; q < n; q++) {
                    others.join(p, q, 9);
                }
                dueVoltage(others, p, -3, -3);
                NodalCircuit allButP = fullWithout(n, p);
                dueVoltage(allButP, p, -3, -3);
            }
        }
    }

    private static void voltageBadPointFirst() {
        for (int n = 2; n <= 6; n++) {
            for (int bad : badPoints(n)) {
                dueVoltage(empty(n), bad, -1, -1);
                dueVoltage(drainAlone(n), bad, -1, -1);
            }
        }
    }

    private static void voltageProbesApartSecond() {
        for (int n = 3; n <= 6; n++) {
            for (int p = 2; p < n; p++) {
                // p is joined to neither probe, then to the drain alone, then to the source alone.
                NodalCircuit x = new NodalCircuit(n);
                dueVoltage(x, p, -2, -2);
                x.join(1, p, 1);
                dueVoltage(x, p, -2, -2);
                x.probe(1, 0);
                dueVoltage(x, p, -2, -2);
            }
        }
    }

    private static void voltageOfProbes() {
        for (int n = 2; n <= 6; n++) {
            dueVoltage(probesAlone(n), 1, 1, 1);
            dueVoltage(probesAlone(n), 0, 0, 1);
            dueVoltage(row(n), n - 1, 1, 1);
            dueVoltage(row(n), 0, 0, 1);
            dueVoltage(full(n), 0, 1, 1);
            dueVoltage(full(n), 1, 0, 1);
        }
    }

    private static void voltageBehindProbes() {
        NodalCircuit x = row(6);
        x.probe(2, 3);
        dueVoltage(x, 0, 1, 1);
        dueVoltage(x, 1, 1, 1);
        dueVoltage(x, 4, 0, 1);
        dueVoltage(x, 5, 0, 1);
        x.join(5, 3, 9);
        x.join(0, 2, 9);
        dueVoltage(x, 0, 1, 1);
        dueVoltage(x, 1, 1, 1);
        dueVoltage(x, 4, 0, 1);
        dueVoltage(x, 5, 0, 1);
    }

    // Promises 12 and 13

    /** Networks with probes that are not joined: nothing there, one probe alone, both with others, cut. */
    private static NodalCircuit[] withProbesApart(int n) {
        NodalCircuit sourceAlone = drainAlone(n);
        sourceAlone.probe(n - 1, 0);
        NodalCircuit cut = row(n);
        cut.join(n / 2, n / 2 - 1, 0);
        return new NodalCircuit[] {empty(n), drainAlone(n), sourceAlone, cut};
    }

    private static void currentTopProbesApart() {
        for (int n = 2; n <= 6; n++) {
            for (NodalCircuit x : withProbesApart(n)) {
                due("currentTop()", x.currentTop(), 0);
            }
        }
    }

    private static void currentBottomProbesApart() {
        for (int n = 2; n <= 6; n++) {
            for (NodalCircuit x : withProbesApart(n)) {
                due("currentBottom()", x.currentBottom(), 1);
            }
        }
    }

    private static void currentLeastAndGreatest() {
        for (int n = 2; n <= 6; n++) {
            dueCurrent(full(n), n == 3 || n == 5 ? 9 * n : 9 * n / 2, n == 3 || n == 5 ? 2 : 1);
            NodalCircuit thin = new NodalCircuit(n);
            thin.chain(0, n - 1, 1);
            thin.probe(0, n - 1);
            dueCurrent(thin, 1, n - 1);
        }
        // Points that the probes are not joined to have no part in the current.
        NodalCircuit others = probesAlone(6);
        others.chain(2, 3, 9);
        dueCurrent(others, 7, 1);
    }

    // Promises 14 and 15

    private static void resistanceTopSamePoint() {
        for (int n = 2; n <= 6; n++) {
            for (int p = 0; p < n; p++) {
                due("resistanceTop of an empty network", empty(n).resistanceTop(p, p), 0);
                due("resistanceTop of a full network", full(n).resistanceTop(p, p), 0);
                due("resistanceTop with the drain alone", drainAlone(n).resistanceTop(p, p), 0);
            }
        }
    }

    private static void resistanceBottomSamePoint() {
        for (int n = 2; n <= 6; n++) {
            for (int p = 0; p < n; p++) {
                due("resistanceBottom of an empty network", empty(n).resistanceBottom(p, p), 1);
                due("resistanceBottom of a full network", full(n).resistanceBottom(p, p), 1);
                due("resistanceBottom with the drain alone", drainAlone(n).resistanceBottom(p, p), 1);
            }
        }
    }

    private static void resistanceBadPoint() {
        for (int n = 2; n <= 6; n++) {
            for (int bad : badPoints(n)) {
                for (int good : new int[] {0, n - 1}) {
                    refused(n, "resistanceTop(" + bad + ", " + good + ")", x -> x.resistanceTop(bad, good), -1);
                    refused(n, "resistanceTop(" + good + ", " + bad + ")", x -> x.resistanceTop(good, bad), -1);
                    refused(n, "resistanceBottom(" + bad + ", " + good + ")", x -> x.resistanceBottom(bad, good), -1);
                    refused(n, "resistanceBottom(" + good + ", " + bad + ")", x -> x.resistanceBottom(good, bad), -1);
                }
            }
        }
    }

    private static void resistanceApart() {
        for (int n = 2; n <= 6; n++) {
            for (int p = 0; p < n; p++) {
                for (int q = 0; q < n; q++) {
                    if (p != q) {
                        dueResistance(empty(n), p, q, -2, -2);
                        dueResistance(fullWithout(n, p), p, q, -2, -2);
                        dueResistance(fullWithout(n, q), p, q, -2, -2);
                    }
                }
            }
        }
    }

    private static void resistanceOrder() {
        for (int n = 2; n <= 6; n++) {
            for (int bad : badPoints(n)) {
                dueResistance(full(n), bad, bad, -1, -1);
                dueResistance(empty(n), bad, bad, -1, -1);
                dueResistance(empty(n), bad, 0, -1, -1);
                dueResistance(empty(n), 0, bad, -1, -1);
            }
        }
    }

    private static void resistanceWithProbesThere() {
        for (int n = 2; n <= 6; n++) {
            for (int p = 0; p < n; p++) {
                for (int q = 0; q < n; q++) {
                    if (p != q) {
                        NodalCircuit there = row(n);
                        there.join(0, n - 1, 9);
                        there.probe(p, q);
                        NodalCircuit elsewhere = row(n);
                        elsewhere.join(0, n - 1, 9);
                        dueResistance(elsewhere, p, q, there.currentBottom(), there.currentTop());
                    }
                }
            }
        }
        NodalCircuit apart = new NodalCircuit(4);
        apart.join(2, 3, 5);
        dueResistance(apart, 2, 3, 1, 5);
        dueResistance(apart, 3, 2, 1, 5);
        due("the probes stay where they are", apart.voltageTop(2), -2);
    }

    private static void resistanceLeastAndGreatest() {
        for (int n = 2; n <= 6; n++) {
            NodalCircuit thin = new NodalCircuit(n);
            thin.chain(0, n - 1, 1);
            dueResistance(thin, 0, n - 1, n - 1, 1);
            dueResistance(thin, n - 1, 0, n - 1, 1);
            boolean odd = n == 3 || n == 5;
            dueResistance(full(n), n - 1, 0, odd ? 2 : 1, odd ? 9 * n : 9 * n / 2);
        }
    }

    // Promises 16 and 17

    private static void flowBadPoint() {
        for (int n = 2; n <= 6; n++) {
            for (int bad : badPoints(n)) {
                for (int good : new int[] {0, n - 1, bad}) {
                    refused(n, "flowTop(" + bad + ", " + good + ")", x -> x.flowTop(bad, good), 0);
                    refused(n, "flowTop(" + good + ", " + bad + ")", x -> x.flowTop(good, bad), 0);
                    refused(n, "flowBottom(" + bad + ", " + good + ")", x -> x.flowBottom(bad, good), 1);
                    refused(n, "flowBottom(" + good + ", " + bad + ")", x -> x.flowBottom(good, bad), 1);
                }
            }
        }
    }

    private static void flowProbesApart() {
        for (int n = 2; n <= 6; n++) {
            for (NodalCircuit x : withProbesApart(n)) {
                for (int p = 0; p < n; p++) {
                    for (int q = 0; q < n; q++) {
                        dueFlow(x, p, q, 0, 1);
                    }
                }
            }
        }
    }

    private static void flowPointApart() {
        for (int n = 3; n <= 6; n++) {
            for (int p = 2; p < n; p++) {
                NodalCircuit x = probesAlone(n);
                for (int q = 2; q < n; q++) {
                    x.join(p, q, 9);
                }
                for (int q = 0; q < n; q++) {
                    dueFlow(x, p, q, 0, 1);
                    dueFlow(x, q, p, 0, 1);
                }
            }
        }
    }

    private static void flowNegative() {
        for (int n = 2; n <= 6; n++) {
            NodalCircuit x = full(n);
            dueFlow(x, 0, 1, 9, 1);
            dueFlow(x, 1, 0, -9, 1);
            for (int p = 2; p < n; p++) {
                dueFlow(x, 0, p, 9, 2);
                dueFlow(x, p, 0, -9, 2);
                dueFlow(x, p, 1, 9, 2);
                dueFlow(x, 1, p, -9, 2);
            }
        }
    }

    private static void flowToItself() {
        for (int n = 2; n <= 6; n++) {
            for (int p = 0; p < n; p++) {
                dueFlow(full(n), p, p, 0, 1);
                dueFlow(row(n), p, p, 0, 1);
            }
        }
    }

    private static void flowOverNothing() {
        for (int n = 3; n <= 6; n++) {
            NodalCircuit x = row(n);
            dueFlow(x, 0, n - 1, 0, 1);
            dueFlow(x, n - 1, 0, 0, 1);
        }
    }

    private static void flowBetweenEqualVoltages() {
        for (int n = 4; n <= 6; n++) {
            for (int p = 2; p < n; p++) {
                for (int q = 2; q < n; q++) {
                    dueFlow(full(n), p, q, 0, 1);
                }
            }
        }
        NodalCircuit deadEnd = row(3);
        deadEnd.probe(0, 1);
        dueFlow(deadEnd, 1, 2, 0, 1);
        dueFlow(deadEnd, 2, 1, 0, 1);
    }

    // Promise 18

    private static void treesWithBadPoint() {
        for (int n = 2; n <= 6; n++) {
            for (int bad : badPoints(n)) {
                for (int good : new int[] {0, n - 1}) {
                    refused(n, "treesWith(" + bad + ", " + good + ")", x -> x.treesWith(bad, good), -1);
                    refused(n, "treesWith(" + good + ", " + bad + ")", x -> x.treesWith(good, bad), -1);
                }
            }
        }
    }

    private static void treesWithSamePoint() {
        for (int n = 2; n <= 6; n++) {
            for (int same = 0; same < n; same++) {
                int p = same;
                refused(n, "treesWith(" + p + ", " + p + ")", x -> x.treesWith(p, p), -2);
            }
        }
    }

    private static void treesWithOrder() {
        for (int n = 2; n <= 6; n++) {
            for (int bad : badPoints(n)) {
                refused(n, "treesWith, the same bad point", x -> x.treesWith(bad, bad), -1);
            }
        }
    }

    private static void treesWithPairOf0() {
        for (int n = 2; n <= 6; n++) {
            due("treesWith in an empty network", empty(n).treesWith(0, n - 1), 0);
            NodalCircuit x = full(n);
            x.join(0, n - 1, 0);
            due("treesWith a pair that was taken away", x.treesWith(0, n - 1), 0);
            due("treesWith the same pair, turned", x.treesWith(n - 1, 0), 0);
        }
    }

    private static void treesWithNotAllJoined() {
        for (int n = 2; n <= 6; n++) {
            for (int alone = 0; alone < n; alone++) {
                for (int p = 0; p < n; p++) {
                    for (int q = p + 1; q < n; q++) {
                        due("treesWith, " + alone + " alone", fullWithout(n, alone).treesWith(p, q), 0);
                    }
                }
            }
        }
        NodalCircuit pairs = new NodalCircuit(4);
        pairs.join(0, 2, 9);
        pairs.join(1, 3, 9);
        due("treesWith in two pairs apart", pairs.treesWith(0, 2), 0);
        due("treesWith in two pairs apart", pairs.treesWith(1, 3), 0);
    }

    private static void treesWithBridge() {
        for (int n = 2; n <= 6; n++) {
            for (int p = 0; p + 1 < n; p++) {
                due("treesWith in a row", row(n).treesWith(p, p + 1), row(n).trees());
                due("treesWith in a row, turned", row(n).treesWith(p + 1, p), row(n).trees());
            }
        }
    }

    private static void treesWithGreatest() {
        due("treesWith of 2", full(2).treesWith(0, 1), 9);
        due("treesWith of 3", full(3).treesWith(0, 2), 2 * 81);
        due("treesWith of 4", full(4).treesWith(3, 1), 8 * 729);
        due("treesWith of 5", full(5).treesWith(2, 4), 50 * 6561);
        due("treesWith of 6", full(6).treesWith(5, 0), 432L * 59049);
    }

    // Promise 19

    private static void bridgesOfEmpty() {
        for (int n = 2; n <= 6; n++) {
            NodalCircuit x = empty(n);
            due("bridges() at first", x.bridges(), 0);
            x.chain(0, 6, 9);
            x.chain(0, 6, 0);
            due("bridges() after all was taken away", x.bridges(), 0);
        }
    }

    private static void bridgesOfPathAndStar() {
        for (int n = 2; n <= 6; n++) {
            due("bridges() of a row", row(n).bridges(), n - 1);
            for (int middle = 0; middle < n; middle++) {
                NodalCircuit star = new NodalCircuit(n);
                for (int p = 0; p < n; p++) {
                    star.join(middle, p, 9);
                }
                due("bridges() of a star", star.bridges(), n - 1);
            }
        }
    }

    private static void bridgesOfRings() {
        for (int n = 3; n <= 6; n++) {
            for (int length = 3; length <= n; length++) {
                due("bridges() of a ring of " + length, ringOf(n, length).bridges(), 0);
            }
            due("bridges() of all pairs", full(n).bridges(), 0);
        }
        due("bridges() of two points, the pair set from both sides", ringOf(2, 2).bridges(), 1);
    }

    private static void bridgesInGroupsApart() {
        for (int n = 3; n <= 6; n++) {
            due("bridges() with one pair", probesAlone(n).bridges(), 1);
            due("bridges() with the drain alone", drainAlone(n).bridges(), n - 2);
        }
        NodalCircuit pairs = new NodalCircuit(6);
        pairs.join(0, 3, 1);
        pairs.join(4, 1, 9);
        pairs.join(2, 5, 5);
        due("bridges() of three pairs", pairs.bridges(), 3);
    }

    /** Two pairs that part the network only together are no bridges. */
    private static void bridgesOnePairAlone() {
        NodalCircuit x = new NodalCircuit(6);
        x.chain(0, 2, 1);
        x.join(0, 2, 1);
        x.chain(3, 2, 1);
        x.join(3, 5, 1);
        x.join(1, 4, 9);
        due("bridges() with one pair between two rings", x.bridges(), 1);
        x.join(0, 5, 1);
        due("bridges() with two pairs between two rings", x.bridges(), 0);
        x.join(1, 4, 0);
        due("bridges() with one of them taken away", x.bridges(), 1);
    }
}
