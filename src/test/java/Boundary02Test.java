/** The boundary cases of promise 2, one method for each sentence. */
public final class Boundary02Test {
    private static final Check CHECK = new Check("Boundary02Test");
    private static final int MIN = Integer.MIN_VALUE;
    private static final int MAX = Integer.MAX_VALUE;

    /** The call answers -1, and nothing tells the object from one that did not get it. */
    private static void refused(Start start, int kind, int x, int y, int z) {
        String call = start + ": addNode(" + kind + ", " + x + ", " + y + ", " + z + ")";
        Unchanged.by(CHECK, call, start::make,
                object -> CHECK.due(call, object.addNode(kind, x, y, z), -1));
    }

    private static void answers(ShapeInference object, int kind, int x, int y, int z, int want) {
        CHECK.due("addNode(" + kind + ", " + x + ", " + y + ", " + z + ")",
                object.addNode(kind, x, y, z), want);
    }

    private static void full() {
        CHECK.sentence("16 nodes already exist.");
        for (Start start : Start.values()) {
            if (start.full()) {
                refused(start, 1, 0, 0, 0);
                refused(start, 1, 6, 6, 0);
                refused(start, 1, -1, 0, 0);
                refused(start, 2, 0, 0, 0);
                refused(start, 3, 15, 15, 0);
                refused(start, 4, 0, 5, 0);
                refused(start, 5, 0, 0, 0);
                refused(start, 6, 3, 1, 1);
                refused(start, 6, 1, -3, 0);
                refused(start, 7, 0, 1, 0);
            }
        }
        // the 16th is taken, whatever its kind, and the 17th is not
        for (int kind = 1; kind <= 7; kind++) {
            Program p = new Program(2);
            for (int node = 0; node < 15; node++) {
                answers(p.x, 1, 2, 2, 0, node);
            }
            int y = kind == 1 || kind == 6 ? 2 : 0;
            answers(p.x, kind, kind == 1 ? 2 : 14, y, 2, 15);
            answers(p.x, kind, kind == 1 ? 2 : 14, y, 2, -1);
            CHECK.due("rankOf(15)", p.x.rankOf(15), kind == 7 ? 1 : 2);
            CHECK.due("rankOf(16)", p.x.rankOf(16), -1);
        }
    }

    private static void kinds() {
        CHECK.sentence("`kind` is not in 1..7.");
        int[] wrong = {MIN, MIN + 1, -7, -1, 0, 8, 9, 256 + 1, (1 << 16) + 1, MAX};
        for (Start start : Start.values()) {
            for (int kind : wrong) {
                refused(start, kind, 0, 0, 0);
                refused(start, kind, 1, 1, 1);
            }
        }
        for (int kind = 1; kind <= 7; kind++) {
            Program p = new Program(2).input(2, 2);
            answers(p.x, kind, 0, 0, 0, 1);
        }
    }

    private static int[] notNodes(Start start) {
        return new int[] {MIN, MIN + 1, -2, -1, start.count, start.count + 1, 16, 17, 256, 1 << 16,
                MAX};
    }

    private static void firstOperands() {
        CHECK.sentence("For kinds 2..7, `x` is not in 0..count-1.");
        for (Start start : Start.values()) {
            for (int x : notNodes(start)) {
                for (int kind = 2; kind <= 7; kind++) {
                    refused(start, kind, x, 0, 0);
                }
                refused(start, 6, x, 1, 1);
            }
        }
        for (int kind = 2; kind <= 7; kind++) {
            for (int x = 0; x <= 3; x++) {
                Program p = new Program(2).input(2, 2).input(2, 2).input(2, 2);
                answers(p.x, kind, x, 0, 0, x <= 2 ? 3 : -1);
            }
        }
    }

    private static void secondOperands() {
        CHECK.sentence("For kinds 2, 3 and 4, `y` is not in 0..count-1.");
        for (Start start : Start.values()) {
            for (int y : notNodes(start)) {
                for (int kind = 2; kind <= 4; kind++) {
                    refused(start, kind, 0, y, 0);
                    refused(start, kind, y, y, 0);
                }
            }
        }
        for (int kind = 2; kind <= 4; kind++) {
            for (int y = 0; y <= 3; y++) {
                Program p = new Program(2).input(2, 2).input(2, 2).input(2, 2);
                answers(p.x, kind, 0, y, 0, y <= 2 ? 3 : -1);
            }
        }
    }

    private static final int[][] BAD_SPECS = {{0, 1}, {0, -1}, {0, 6}, {0, 7}, {0, MIN}, {0, MAX},
            {7, 0}, {7, 1}, {1, 7}, {6, 7}, {7, 6}, {-4, 0}, {-4, 1}, {1, -4}, {-3, -4}, {-4, -3},
            {MIN, 0}, {MIN, 1}, {1, MIN}, {MAX, 0}, {MAX, 1}, {1, MAX}, {MIN, MAX}};

    private static void specsOfInputs() {
        CHECK.sentence("For K_INPUT, the spec (x, y) is invalid.");
        for (Start start : Start.values()) {
            for (int[] spec : BAD_SPECS) {
                refused(start, 1, spec[0], spec[1], 0);
            }
        }
        int[][] good = {{0, 0}, {1, 0}, {6, 0}, {-1, 0}, {-3, 0}, {1, 1}, {6, 6}, {-3, -3}, {6, -3},
                {-3, 6}};
        for (int[] spec : good) {
            answers(new ShapeInference(6), 1, spec[0], spec[1], 0, 0);
        }
    }

    private static void specsOfReshapes() {
        CHECK.sentence("For K_RESHAPE, the spec (y, z) is invalid.");
        for (Start start : Start.values()) {
            for (int[] spec : BAD_SPECS) {
                refused(start, 6, 0, spec[0], spec[1]);
            }
        }
        int[][] good = {{0, 0}, {1, 0}, {6, 0}, {-1, 0}, {-3, 0}, {1, 1}, {6, 6}, {-3, -3}, {6, -3},
                {-3, 6}};
        for (int[] spec : good) {
            // a reshape that never fits is a node all the same
            answers(new Program(6).input(5, 5).x, 6, 0, spec[0], spec[1], 1);
        }
    }

    private static void ranksForMatmul() {
        CHECK.sentence("For K_MATMUL, the rank of x or of y is not 2.");
        int[] ofRank = {3, 1, 0};
        for (Start start : Start.values()) {
            if (start.hasSome()) {
                for (int a = 0; a < 3; a++) {
                    for (int b = 0; b < 3; b++) {
                        if (a != 2 || b != 2) {
                            refused(start, 4, ofRank[a], ofRank[b], 0);
                        }
                    }
                }
                refused(start, 4, 8, 0, 0);
                refused(start, 4, 0, 8, 0);
            }
        }
        answers(Start.SOME.make(), 4, 0, 0, 0, 10);
        answers(Start.SOME.make(), 4, 9, 7, 0, 10);
    }

    private static void axesForSum() {
        CHECK.sentence("For K_SUM, y is not in 0..rankOf(x)-1.");
        int[] axes = {MIN, MIN + 1, -2, -1, 1, 2, 3, 256, 1 << 16, MAX};
        for (Start start : Start.values()) {
            if (start.hasSome()) {
                for (int axis : axes) {
                    refused(start, 7, 1, axis, 0);
                    if (axis != 1) {
                        refused(start, 7, 0, axis, 0);
                    }
                }
            }
        }
        answers(Start.SOME.make(), 7, 1, 0, 0, 10);
        answers(Start.SOME.make(), 7, 0, 0, 0, 10);
        answers(Start.SOME.make(), 7, 0, 1, 0, 10);
    }

    private static void noSumOfRankZero() {
        CHECK.sentence("So a K_SUM on a rank 0 operand is always refused.");
        for (int axis = -3; axis <= 3; axis++) {
            refused(Start.SOME, 7, 3, axis, 0);
            refused(Start.SOME_RUN, 7, 3, axis, 0);
            refused(Start.SOME_TRAPPED, 7, 3, axis, 0);
            // rank 0 by a sum, by a reshape, by a broadcast and by a transpose
            Program p = new Program(2).input(2, 0).sum(0, 0).input(1, 1).reshape(2, 0, 0).add(1, 3)
                    .transpose(1);
            for (int node = 1; node <= 5; node++) {
                if (node != 2) {
                    answers(p.x, 7, node, axis, 0, -1);
                }
            }
            CHECK.due("rankOf(6)", p.x.rankOf(6), -1);
        }
    }

    private static void severalAtOnce() {
        CHECK.sentence("The first one that fails makes the call answer -1 and change nothing.");
        int[][] calls = {{0, -1, -1, -1}, {8, 99, 99, 99}, {MIN, MIN, MIN, MIN}, {MAX, MAX, MAX, MAX},
                {1, 7, -4, 0}, {1, MIN, MAX, MIN}, {2, -1, 99, 0}, {3, MIN, MAX, 0},
                {4, -1, -1, 0}, {4, MAX, 3, 0}, {4, 3, MAX, 0}, {5, -1, MAX, MIN}, {5, 99, 0, 0},
                {6, -1, 0, 1}, {6, MAX, 7, 7}, {6, 16, -4, MIN}, {7, -1, -1, 0}, {7, MAX, MAX, 0},
                {7, 16, 2, 0}, {7, MIN, 0, 0}};
        for (Start start : Start.values()) {
            for (int[] c : calls) {
                refused(start, c[0], c[1], c[2], c[3]);
            }
        }
    }

    private static final int[] ODD = {MIN, -4, -1, 0, 1, 7, 16, 99, MAX};

    private static void ignoredZ() {
        CHECK.sentence("Arguments that a kind does not name are ignored: z for K_INPUT, K_ADD, K_MUL,"
                + " K_MATMUL and K_SUM,");
        for (int z : ODD) {
            ShapeInference got = new ShapeInference(3);
            ShapeInference want = new ShapeInference(3);
            int[][] nodes = {{1, -1, -2}, {1, -2, 0}, {1, 0, 0}, {2, 0, 1}, {3, 0, 2}, {4, 0, 0},
                    {7, 0, 0}, {7, 0, 1}, {7, 1, 0}};
            for (int i = 0; i < nodes.length; i++) {
                answers(got, nodes[i][0], nodes[i][1], nodes[i][2], z, i);
                want.addNode(nodes[i][0], nodes[i][1], nodes[i][2], 0);
            }
            Answers.now(got).same(CHECK, "z " + z, Answers.now(want));
            Answers.later(got).same(CHECK, "z " + z + " and more calls", Answers.later(want));
        }
    }

    private static void ignoredByTranspose() {
        CHECK.sentence("and y and z for K_TRANSPOSE.");
        for (int y : ODD) {
            for (int z : ODD) {
                Program got = new Program(3).input(-1, -2).input(-3, 0).input(0, 0);
                Program want = new Program(3).input(-1, -2).input(-3, 0).input(0, 0);
                for (int x = 0; x < 3; x++) {
                    answers(got.x, 5, x, y, z, 3 + x);
                    want.transpose(x);
                }
                String args = "y " + y + " and z " + z;
                Answers.now(got.x).same(CHECK, args, Answers.now(want.x));
                Answers.later(got.x).same(CHECK, args + " and more calls", Answers.later(want.x));
            }
        }
    }

    private static void indexIsCount() {
        CHECK.sentence("the node gets index count, and the answer is count;");
        ShapeInference x = new ShapeInference(6);
        for (int i = 0; i < 16; i++) {
            CHECK.due("rankOf(" + i + ") before", x.rankOf(i), -1);
            // a refused node takes no index
            answers(x, 1, 7, 0, 0, -1);
            answers(x, 2, i, 0, 0, -1);
            answers(x, 1, i % 6 + 1, i % 2, 0, i);
            CHECK.due("rankOf(" + i + ")", x.rankOf(i), i % 2 + 1);
            CHECK.due("dimOf(" + i + ", 0)", x.dimOf(i, 0), i % 6 + 1);
        }
    }

    private static void firstData() {
        CHECK.sentence("a K_INPUT node gets data cell i = i+1 for every i in 0..35;");
        ShapeInference x = new Program(6).bind(6, 6, 6).x;
        for (int node = 0; node < 16; node++) {
            x.addNode(1, -1, -2, 0);
        }
        CHECK.due("run()", x.run(), true);
        for (int node = 0; node < 16; node++) {
            for (int i = 0; i < 36; i++) {
                CHECK.due("valueAt(" + node + ", " + i + ")", x.valueAt(node, i), i + 1);
            }
        }
    }

    private static void runStateEnds() {
        CHECK.sentence("the run state becomes RUN_NONE.");
        int[][] nodes = {{1, 0, 0, 0}, {2, 0, 0, 0}, {3, 1, 2, 0}, {4, 0, 0, 0}, {5, 0, 0, 0},
                {6, 0, 1, 0}, {7, 0, 0, 0}};
        Start[] starts = {Start.SOME, Start.SOME_RUN, Start.SOME_TRAPPED};
        for (Start start : starts) {
            for (int[] n : nodes) {
                ShapeInference x = start.make();
                answers(x, n[0], n[1], n[2], n[3], 10);
                CHECK.due(start + ": runState()", x.runState(), ShapeInference.RUN_NONE);
                CHECK.due(start + ": trapNode()", x.trapNode(), -1);
                CHECK.due(start + ": valueDim(0, 0)", x.valueDim(0, 0), 0);
                CHECK.due(start + ": valueAt(1, 0)", x.valueAt(1, 0), 0);
            }
        }
        ShapeInference x = Start.EMPTY_RUN.make();
        answers(x, 1, 0, 0, 0, 0);
        CHECK.due("EMPTY_RUN: runState()", x.runState(), ShapeInference.RUN_NONE);
    }

    private static void othersStay() {
        CHECK.sentence("The call never changes existing nodes, their data cells, or the bindings.");
        int[][] nodes = {{1, 6, 6, 0}, {1, 0, 0, 0}, {1, -1, 0, 0}, {2, 0, 0, 0}, {3, 2, 3, 0},
                {4, 0, 5, 0}, {5, 0, 0, 0}, {6, 1, -3, 0}, {7, 0, 0, 0}};
        for (int[] n : nodes) {
            ShapeInference x = Start.SOME.make();
            ShapeInference y = Start.SOME.make();
            answers(x, n[0], n[1], n[2], n[3], 10);
            for (int s = 0; s < 3; s++) {
                CHECK.due("boundValue(" + s + ")", x.boundValue(s), y.boundValue(s));
            }
            int[][] bindings = {{2, 3, 3}, {6, 6, 6}, {1, 1, 1}};
            for (int[] b : bindings) {
                for (int s = 0; s < 3; s++) {
                    x.bind(s, b[s]);
                    y.bind(s, b[s]);
                }
                CHECK.due("run()", x.run(), y.run());
                sameNodes(x, y);
            }
        }
    }

    private static void sameNodes(ShapeInference x, ShapeInference y) {
        for (int node = 0; node < 10; node++) {
            CHECK.due("rankOf(" + node + ")", x.rankOf(node), y.rankOf(node));
            for (int k = 0; k < 2; k++) {
                CHECK.due("valueDim(" + node + ", " + k + ")", x.valueDim(node, k), y.valueDim(node, k));
                CHECK.due("dimOf(" + node + ", " + k + ")", x.dimOf(node, k), y.dimOf(node, k));
            }
            for (int i = 0; i < 36; i++) {
                CHECK.due("valueAt(" + node + ", " + i + ")", x.valueAt(node, i), y.valueAt(node, i));
            }
        }
    }

    private static void admissibilityChanges() {
        CHECK.sentence("Adding a node can change which instantiations are admissible, and with that"
                + " the answers of `accepted`, `admissible`, `dimOf`, `symbolValue` and"
                + " `symbolsEqual`.");
        Program p = new Program(3).input(-1, -2);
        CHECK.due("admissible(1, 3, 1)", p.x.admissible(1, 3, 1), true);
        CHECK.due("symbolsEqual(0, 1)", p.x.symbolsEqual(0, 1), false);
        CHECK.dims(p.x, 0, -1, -2);
        p.matmul(0, 0);
        CHECK.due("admissible(1, 3, 1)", p.x.admissible(1, 3, 1), false);
        CHECK.due("symbolsEqual(0, 1)", p.x.symbolsEqual(0, 1), true);
        CHECK.due("symbolValue(1)", p.x.symbolValue(1), 0);
        CHECK.dims(p.x, 0, -1, -1);
        p.reshape(0, 3, 3);
        CHECK.due("symbolValue(1)", p.x.symbolValue(1), 3);
        CHECK.dims(p.x, 0, 3, 3);
        CHECK.due("accepted()", p.x.accepted(), true);
        p.reshape(0, 3, 2);
        CHECK.due("accepted()", p.x.accepted(), false);
        CHECK.due("admissible(3, 3, 3)", p.x.admissible(3, 3, 3), false);
        CHECK.due("symbolValue(1)", p.x.symbolValue(1), 0);
        CHECK.due("symbolsEqual(0, 1)", p.x.symbolsEqual(0, 1), false);
        CHECK.dims(p.x, 0, 0, 0);
    }

    public static void main(String[] args) {
        full();
        kinds();
        firstOperands();
        secondOperands();
        specsOfInputs();
        specsOfReshapes();
        ranksForMatmul();
        axesForSum();
        noSumOfRankZero();
        severalAtOnce();
        ignoredZ();
        ignoredByTranspose();
        indexIsCount();
        firstData();
        runStateEnds();
        othersStay();
        admissibilityChanges();
        CHECK.end();
    }
}
