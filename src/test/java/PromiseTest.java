/** Each promise of the document, by number: ordinary inputs, the edges it names, wrong inputs. */
public final class PromiseTest {
    private static final int[] NEVER_GOOD = {-1, 6, 7, 64, -64, Integer.MIN_VALUE, Integer.MAX_VALUE};
    private static int wrong = 0;

    public static void main(String[] args) {
        newObject();
        points();
        join();
        joinIsForOnePairAlone();
        chain();
        chainGoesRound();
        probe();
        conductance();
        joined();
        parts();
        trees();
        voltage();
        voltageRefusals();
        current();
        resistance();
        flow();
        flowRefusals();
        treesWith();
        bridges();
        fullNetwork();
        questionsChangeNothing();
        refusedCallsChangeNothing();
        objectsAreApart();
        System.out.println(wrong == 0 ? "all answers are as due" : wrong + " answers are not as due");
        if (wrong != 0) {
            System.exit(1);
        }
    }

    private static void due(String call, long got, long want) {
        if (got != want) {
            wrong++;
            System.out.println(call + " answered " + got + ", due is " + want);
        }
    }

    private static void dueVoltage(NodalCircuit x, int p, long top, long bottom) {
        due("voltageTop(" + p + ")", x.voltageTop(p), top);
        due("voltageBottom(" + p + ")", x.voltageBottom(p), bottom);
    }

    private static void dueCurrent(NodalCircuit x, long top, long bottom) {
        due("currentTop()", x.currentTop(), top);
        due("currentBottom()", x.currentBottom(), bottom);
    }

    private static void dueResistance(NodalCircuit x, int p, int q, long top, long bottom) {
        due("resistanceTop(" + p + ", " + q + ")", x.resistanceTop(p, q), top);
        due("resistanceBottom(" + p + ", " + q + ")", x.resistanceBottom(p, q), bottom);
    }

    private static void dueFlow(NodalCircuit x, int p, int q, long top, long bottom) {
        due("flowTop(" + p + ", " + q + ")", x.flowTop(p, q), top);
        due("flowBottom(" + p + ", " + q + ")", x.flowBottom(p, q), bottom);
    }

    // Promise 1

    private static void newObject() {
        int[] asked = {Integer.MIN_VALUE, -1, 0, 1, 2, 3, 4, 5, 6, 7, 100, Integer.MAX_VALUE};
        int[] given = {2, 2, 2, 2, 2, 3, 4, 5, 6, 6, 6, 6};
        for (int i = 0; i < asked.length; i++) {
            NodalCircuit x = new NodalCircuit(asked[i]);
            due("1: points of new " + asked[i], x.points(), given[i]);
            due("1: parts of new " + asked[i], x.parts(), given[i]);
            due("1: last point is good", x.conductance(0, given[i] - 1), 0);
            due("1: point n is not good", x.conductance(0, given[i]), -1);
            due("1: trees of new", x.trees(), 0);
            due("1: bridges of new", x.bridges(), 0);
        }
        NodalCircuit x = new NodalCircuit(4);
        x.chain(0, 3, 1);
        dueVoltage(x, 0, 1, 1);
        dueVoltage(x, 1, 0, 1);
    }

    // Promise 2

    private static void points() {
        NodalCircuit x = new NodalCircuit(5);
        due("2: points", x.points(), 5);
        x.join(0, 4, 3);
        x.chain(0, 6, 2);
        x.probe(3, 4);
        due("2: points after changes", x.points(), 5);
    }

    // Promise 3

    private static void join() {
        NodalCircuit x = new NodalCircuit(6);
        due("3: first", x.join(1, 4, 5), 0);
        due("3: second", x.join(1, 4, 9), 5);
        due("3: other way round", x.join(4, 1, 0), 9);
        due("3: after 0", x.join(1, 4, 1), 0);
        for (int bad : NEVER_GOOD) {
            due("3: bad p", x.join(bad, 1, 1), -1);
            due("3: bad q", x.join(1, bad, 1), -1);
            due("3: bad and the same", x.join(bad, bad, 10), -1);
            due("3: bad and value bad", x.join(1, bad, -1), -1);
        }
        due("3: same", x.join(2, 2, 1), -2);
        due("3: same before value", x.join(2, 2, 10), -2);
        for (int value : new int[] {-1, 10, Integer.MIN_VALUE, Integer.MAX_VALUE}) {
            due("3: value " + value, x.join(1, 4, value), -3);
        }
        due("3: refusals left it", x.join(1, 4, 1), 1);
    }

    private static void joinIsForOnePairAlone() {
        NodalCircuit x = new NodalCircuit(6);
        for (int p = 0; p < 6; p++) {
            for (int q = p + 1; q < 6; q++) {
                due("3: untouched", x.join(p, q, (p * 6 + q) % 10), 0);
            }
        }
        for (int p = 0; p < 6; p++) {
            for (int q = p + 1; q < 6; q++) {
                due("3: kept", x.conductance(p, q), (p * 6 + q) % 10);
                due("3: kept turned", x.conductance(q, p), (p * 6 + q) % 10);
            }
        }
    }

    // Promise 4

    private static void chain() {
        NodalCircuit x = new NodalCircuit(5);
        x.join(0, 2, 9);
        due("4: three", x.chain(1, 3, 4), 0);
        int[][] want = {{0, 0, 9, 0, 0}, {0, 0, 4, 0, 0}, {9, 4, 0, 4, 0}, {0, 0, 4, 0, 4}, {0, 0, 0, 4, 0}};
        dueConductances(x, want);
        due("4: to 0", x.chain(2, 1, 0), 0);
        due("4: one was unset", x.conductance(2, 3), 0);
        due("4: one was left", x.conductance(3, 4), 4);
        for (int bad : new int[] {-1, 5, 6, Integer.MIN_VALUE, Integer.MAX_VALUE}) {
            due("4: bad p", x.chain(bad, 0, 10), -1);
            due("4: bad p alone", x.chain(bad, 1, 1), -1);
        }
        for (int bad : new int[] {0, 7, -1, Integer.MIN_VALUE, Integer.MAX_VALUE}) {
            due("4: bad count", x.chain(0, bad, 10), -2);
            due("4: bad count alone", x.chain(0, bad, 1), -2);
        }
        for (int bad : new int[] {-1, 10, Integer.MIN_VALUE, Integer.MAX_VALUE}) {
            due("4: bad value", x.chain(0, 6, bad), -3);
        }
        due("4: refusals left it", x.conductance(0, 1), 0);
    }

    private static void chainGoesRound() {
        NodalCircuit x = new NodalCircuit(3);
        due("4: round", x.chain(2, 1, 7), 0);
        dueConductances(x, new int[][] {{0, 0, 7}, {0, 0, 0}, {7, 0, 0}});
        due("4: longer than the ring", x.chain(1, 6, 2), 0);
        dueConductances(x, new int[][] {{0, 2, 2}, {2, 0, 2}, {2, 2, 0}});
        NodalCircuit two = new NodalCircuit(2);
        due("4: two points", two.chain(1, 6, 3), 0);
        dueConductances(two, new int[][] {{0, 3}, {3, 0}});
        NodalCircuit six = new NodalCircuit(6);
        due("4: six points, five links", six.chain(3, 5, 1), 0);
        due("4: the link left out", six.conductance(2, 3), 0);
        due("4: the last link", six.conductance(1, 2), 1);
        due("4: the link over the end", six.conductance(5, 0), 1);
        due("4: value 9, count 6", six.chain(0, 6, 9), 0);
        due("4: whole ring", six.trees(), 6L * 59049);
    }

    private static void dueConductances(NodalCircuit x, int[][] want) {
        for (int p = 0; p < want.length; p++) {
            for (int q = 0; q < want.length; q++) {
                due("conductance(" + p + ", " + q + ")", x.conductance(p, q), want[p][q]);
            }
        }
    }

    // Promise 5

    private static void probe() {
        NodalCircuit x = new NodalCircuit(4);
        x.chain(0, 3, 1);
        due("5: set", x.probe(3, 0), 0);
        dueVoltage(x, 3, 1, 1);
        dueVoltage(x, 2, 2, 3);
        dueVoltage(x, 0, 0, 1);
        for (int bad : new int[] {-1, 4, 6, Integer.MIN_VALUE, Integer.MAX_VALUE}) {
            due("5: bad source", x.probe(bad, 1), -1);
            due("5: bad drain", x.probe(1, bad), -1);
            due("5: bad and the same", x.probe(bad, bad), -1);
        }
        due("5: same", x.probe(2, 2), -2);
        dueVoltage(x, 2, 2, 3);
        due("5: turned", x.probe(0, 3), 0);
        dueVoltage(x, 2, 1, 3);
    }

    // Promise 6

    private static void conductance() {
        NodalCircuit x = new NodalCircuit(6);
        x.join(5, 2, 8);
        due("6: set", x.conductance(5, 2), 8);
        due("6: turned", x.conductance(2, 5), 8);
        due("6: not set", x.conductance(2, 4), 0);
        for (int p = 0; p < 6; p++) {
            due("6: same", x.conductance(p, p), 0);
        }
        for (int bad : NEVER_GOOD) {
            due("6: bad p", x.conductance(bad, 0), -1);
            due("6: bad q", x.conductance(0, bad), -1);
            due("6: bad and the same", x.conductance(bad, bad), -1);
        }
        due("6: n is not good in a small one", new NodalCircuit(3).conductance(3, 3), -1);
    }

    // Promise 7

    private static void joined() {
        NodalCircuit x = new NodalCircuit(6);
        x.join(5, 3, 1);
        x.join(3, 4, 1);
        x.join(4, 0, 9);
        for (int p = 0; p < 6; p++) {
            due("7: itself", x.joined(p, p), 1);
        }
        due("7: far", x.joined(5, 0), 1);
        due("7: far turned", x.joined(0, 5), 1);
        due("7: next", x.joined(3, 5), 1);
        due("7: not", x.joined(0, 1), 0);
        due("7: two alone", x.joined(1, 2), 0);
        x.join(3, 4, 0);
        due("7: cut", x.joined(5, 0), 0);
        due("7: left", x.joined(4, 0), 1);
        for (int bad : NEVER_GOOD) {
            due("7: bad p", x.joined(bad, 0), -1);
            due("7: bad q", x.joined(0, bad), -1);
            due("7: bad and the same", x.joined(bad, bad), -1);
        }
        // Paths that meet the points out of order need more than one look over the pairs.
        NodalCircuit path = new NodalCircuit(6);
        int[] order = {0, 5, 1, 4, 2, 3};
        for (int i = 0; i < 5; i++) {
            path.join(order[i], order[i + 1], 1);
        }
        due("7: zigzag", path.joined(0, 3), 1);
        due("7: zigzag turned", path.joined(3, 0), 1);
    }

    // Promise 8

    private static void parts() {
        NodalCircuit x = new NodalCircuit(6);
        due("8: none joined", x.parts(), 6);
        x.join(0, 5, 1);
        due("8: one pair", x.parts(), 5);
        x.join(1, 4, 2);
        x.join(2, 3, 3);
        due("8: three pairs", x.parts(), 3);
        x.join(3, 4, 1);
        due("8: two groups", x.parts(), 2);
        x.join(1, 2, 1);
        due("8: a ring changes nothing", x.parts(), 2);
        x.join(0, 1, 1);
        due("8: one group", x.parts(), 1);
        x.chain(0, 6, 0);
        due("8: only the pair 1, 4 left", x.parts(), 5);
    }

    // Promise 9

    private static void trees() {
        NodalCircuit x = new NodalCircuit(3);
        x.join(0, 1, 2);
        due("9: not all joined", x.trees(), 0);
        x.join(1, 2, 3);
        due("9: one tree", x.trees(), 6);
        x.join(0, 2, 5);
        due("9: three trees", x.trees(), 2 * 3 + 2 * 5 + 3 * 5);
        NodalCircuit apart = new NodalCircuit(6);
        apart.chain(0, 2, 4);
        apart.join(0, 2, 4);
        apart.chain(3, 2, 4);
        apart.join(3, 5, 4);
        due("9: two rings apart", apart.trees(), 0);
        apart.join(2, 3, 1);
        due("9: two rings joined", apart.trees(), 48 * 48);
        NodalCircuit last = new NodalCircuit(4);
        last.chain(0, 2, 3);
        due("9: the last point alone", last.trees(), 0);
        NodalCircuit first = new NodalCircuit(4);
        first.chain(1, 2, 3);
        due("9: the first point alone", first.trees(), 0);
    }

    // Promises 10 and 11

    private static void voltage() {
        NodalCircuit x = new NodalCircuit(4);
        x.join(0, 2, 2);
        x.join(2, 1, 4);
        dueVoltage(x, 0, 1, 1);
        dueVoltage(x, 1, 0, 1);
        dueVoltage(x, 2, 1, 3);
        x.join(2, 3, 6);
        dueVoltage(x, 3, 1, 3);
        x.join(3, 1, 3);
        dueVoltage(x, 2, 1, 4);
        dueVoltage(x, 3, 1, 6);
        NodalCircuit behind = new NodalCircuit(4);
        behind.chain(0, 3, 5);
        dueVoltage(behind, 2, 0, 1);
        dueVoltage(behind, 3, 0, 1);
        behind.probe(2, 3);
        dueVoltage(behind, 0, 1, 1);
        dueVoltage(behind, 1, 1, 1);
    }

    private static void voltageRefusals() {
        NodalCircuit x = new NodalCircuit(5);
        for (int p = 0; p < 5; p++) {
            dueVoltage(x, p, -2, -2);
        }
        x.join(0, 2, 1);
        dueVoltage(x, 0, -2, -2);
        dueVoltage(x, 2, -2, -2);
        dueVoltage(x, 5, -1, -1);
        x.join(1, 2, 1);
        x.join(3, 4, 1);
        dueVoltage(x, 2, 1, 2);
        dueVoltage(x, 3, -3, -3);
        dueVoltage(x, 4, -3, -3);
        for (int bad : NEVER_GOOD) {
            dueVoltage(x, bad, -1, -1);
        }
        dueVoltage(x, 5, -1, -1);
    }

    // Promises 12 and 13

    private static void current() {
        NodalCircuit x = new NodalCircuit(4);
        dueCurrent(x, 0, 1);
        x.join(0, 2, 2);
        dueCurrent(x, 0, 1);
        x.join(2, 1, 4);
        dueCurrent(x, 4, 3);
        x.join(0, 1, 3);
        dueCurrent(x, 13, 3);
        x.probe(1, 0);
        dueCurrent(x, 13, 3);
        x.probe(1, 3);
        dueCurrent(x, 0, 1);
        x.join(3, 1, 9);
        dueCurrent(x, 9, 1);
        // A balanced bridge: nothing flows over the pair 2, 3.
        NodalCircuit balanced = new NodalCircuit(4);
        balanced.join(0, 2, 2);
        balanced.join(0, 3, 4);
        balanced.join(2, 1, 3);
        balanced.join(3, 1, 6);
        balanced.join(2, 3, 7);
        dueCurrent(balanced, 18, 5);
        dueFlow(balanced, 2, 3, 0, 1);
    }

    // Promises 14 and 15

    private static void resistance() {
        NodalCircuit x = new NodalCircuit(6);
        dueResistance(x, 3, 3, 0, 1);
        dueResistance(x, 0, 1, -2, -2);
        x.join(2, 3, 6);
        x.join(3, 4, 3);
        dueResistance(x, 2, 3, 1, 6);
        dueResistance(x, 2, 4, 1, 2);
        dueResistance(x, 4, 2, 1, 2);
        dueResistance(x, 3, 3, 0, 1);
        dueResistance(x, 2, 5, -2, -2);
        x.join(2, 4, 2);
        dueResistance(x, 2, 4, 1, 4);
        x.join(0, 5, 8);
        dueResistance(x, 0, 5, 1, 8);
        dueResistance(x, 2, 4, 1, 4);
        dueResistance(x, 0, 2, -2, -2);
        for (int bad : NEVER_GOOD) {
            dueResistance(x, bad, 2, -1, -1);
            dueResistance(x, 2, bad, -1, -1);
            dueResistance(x, bad, bad, -1, -1);
        }
        NodalCircuit path = new NodalCircuit(6);
        path.chain(0, 5, 1);
        dueResistance(path, 0, 5, 5, 1);
        dueResistance(path, 5, 1, 4, 1);
    }

    // Promises 16 and 17

    private static void flow() {
        NodalCircuit x = new NodalCircuit(4);
        x.join(0, 2, 2);
        x.join(2, 1, 4);
        x.join(2, 3, 9);
        dueFlow(x, 0, 2, 4, 3);
        dueFlow(x, 2, 0, -4, 3);
        dueFlow(x, 2, 1, 4, 3);
        dueFlow(x, 1, 2, -4, 3);
        dueFlow(x, 2, 3, 0, 1);
        dueFlow(x, 0, 1, 0, 1);
        dueFlow(x, 2, 2, 0, 1);
        x.probe(1, 0);
        dueFlow(x, 0, 2, -4, 3);
        x.join(0, 1, 5);
        dueFlow(x, 1, 0, 5, 1);
        dueFlow(x, 0, 1, -5, 1);
        dueFlow(x, 1, 2, 4, 3);
    }

    private static void flowRefusals() {
        NodalCircuit x = new NodalCircuit(6);
        x.join(2, 3, 5);
        dueFlow(x, 2, 3, 0, 1);
        x.join(0, 1, 7);
        dueFlow(x, 2, 3, 0, 1);
        dueFlow(x, 0, 2, 0, 1);
        dueFlow(x, 2, 0, 0, 1);
        dueFlow(x, 0, 1, 7, 1);
        for (int bad : NEVER_GOOD) {
            dueFlow(x, bad, 1, 0, 1);
            dueFlow(x, 1, bad, 0, 1);
            dueFlow(x, bad, bad, 0, 1);
        }
    }

    // Promise 18

    private static void treesWith() {
        NodalCircuit x = new NodalCircuit(3);
        x.join(0, 1, 2);
        due("18: not all joined", x.treesWith(0, 1), 0);
        x.join(1, 2, 3);
        due("18: one tree", x.treesWith(0, 1), 6);
        due("18: no pair", x.treesWith(0, 2), 0);
        x.join(0, 2, 5);
        due("18: 0, 1", x.treesWith(0, 1), 2 * 3 + 2 * 5);
        due("18: 1, 2", x.treesWith(2, 1), 2 * 3 + 3 * 5);
        due("18: 0, 2", x.treesWith(0, 2), 2 * 5 + 3 * 5);
        due("18: same", x.treesWith(1, 1), -2);
        for (int bad : new int[] {-1, 3, 6, Integer.MIN_VALUE, Integer.MAX_VALUE}) {
            due("18: bad p", x.treesWith(bad, 0), -1);
            due("18: bad q", x.treesWith(0, bad), -1);
            due("18: bad and the same", x.treesWith(bad, bad), -1);
        }
        NodalCircuit apart = new NodalCircuit(4);
        apart.join(0, 1, 4);
        apart.join(2, 3, 5);
        due("18: in one of two groups", apart.treesWith(0, 1), 0);
        due("18: in the other", apart.treesWith(3, 2), 0);
        due("18: between the groups", apart.treesWith(1, 2), 0);
    }

    // Promise 19

    private static void bridges() {
        NodalCircuit x = new NodalCircuit(6);
        x.chain(0, 5, 9);
        due("19: path", x.bridges(), 5);
        x.chain(5, 1, 1);
        due("19: ring", x.bridges(), 0);
        x.chain(2, 1, 0);
        due("19: cut ring", x.bridges(), 5);
        x.join(3, 5, 2);
        due("19: ring of three and a tail", x.bridges(), 3);
        x.join(5, 0, 0);
        due("19: ring of three and a path apart", x.bridges(), 2);
        x.join(0, 2, 1);
        due("19: two rings apart", x.bridges(), 0);
        x.join(1, 4, 1);
        due("19: two rings over one pair", x.bridges(), 1);
        x.join(0, 3, 1);
        due("19: two rings over two pairs", x.bridges(), 0);
    }

    /** All numbers at their greatest: every pair of six points has conductance 9. */
    private static void fullNetwork() {
        NodalCircuit x = new NodalCircuit(6);
        for (int p = 0; p < 6; p++) {
            for (int q = p + 1; q < 6; q++) {
                x.join(p, q, 9);
            }
        }
        due("full: trees", x.trees(), 59049L * 1296);
        due("full: treesWith", x.treesWith(4, 5), 59049L * 1296 / 3);
        due("full: bridges", x.bridges(), 0);
        dueCurrent(x, 27, 1);
        dueVoltage(x, 5, 1, 2);
        dueResistance(x, 2, 4, 1, 27);
        dueFlow(x, 0, 5, 9, 2);
        dueFlow(x, 5, 0, -9, 2);
    }

    private static void questionsChangeNothing() {
        NodalCircuit x = new NodalCircuit(5);
        x.chain(0, 4, 2);
        x.join(1, 3, 5);
        x.probe(0, 4);
        long[] before = everyAnswer(x);
        long[] after = everyAnswer(x);
        for (int i = 0; i < before.length; i++) {
            due("answer " + i + " asked again", after[i], before[i]);
        }
    }

    private static void refusedCallsChangeNothing() {
        NodalCircuit x = new NodalCircuit(5);
        x.chain(0, 4, 2);
        x.join(1, 3, 5);
        x.probe(0, 4);
        long[] before = everyAnswer(x);
        x.join(0, 5, 1);
        x.join(-1, 0, 1);
        x.join(2, 2, 7);
        x.join(0, 1, 10);
        x.join(0, 1, -1);
        x.chain(5, 1, 1);
        x.chain(0, 0, 1);
        x.chain(0, 7, 1);
        x.chain(0, 3, 10);
        x.chain(0, 3, -1);
        x.probe(5, 1);
        x.probe(1, -1);
        x.probe(3, 3);
        long[] after = everyAnswer(x);
        for (int i = 0; i < before.length; i++) {
            due("answer " + i + " after refusals", after[i], before[i]);
        }
    }

    private static long[] everyAnswer(NodalCircuit x) {
        long[] answers = new long[512];
        int count = 0;
        for (int p = 0; p < 5; p++) {
            for (int q = 0; q < 5; q++) {
                answers[count++] = x.conductance(p, q);
                answers[count++] = x.joined(p, q);
                answers[count++] = x.resistanceTop(p, q);
                answers[count++] = x.resistanceBottom(p, q);
                answers[count++] = x.flowTop(p, q);
                answers[count++] = x.flowBottom(p, q);
                answers[count++] = x.treesWith(p, q);
            }
            answers[count++] = x.voltageTop(p);
            answers[count++] = x.voltageBottom(p);
        }
        answers[count++] = x.points();
        answers[count++] = x.parts();
        answers[count++] = x.trees();
        answers[count++] = x.currentTop();
        answers[count++] = x.currentBottom();
        answers[count++] = x.bridges();
        return answers;
    }

    private static void objectsAreApart() {
        NodalCircuit a = new NodalCircuit(3);
        NodalCircuit b = new NodalCircuit(3);
        a.chain(0, 2, 4);
        a.probe(2, 0);
        due("apart: b has none of a's", b.conductance(0, 1), 0);
        b.chain(0, 2, 1);
        dueVoltage(b, 2, 0, 1);
        dueVoltage(a, 2, 1, 1);
        due("apart: a's trees", a.trees(), 16);
        due("apart: b's trees", b.trees(), 1);
    }
}
