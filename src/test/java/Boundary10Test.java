/** The boundary cases of promise 10, one method for each sentence. */
public final class Boundary10Test {
    private static final Check CHECK = new Check("Boundary10Test");
    private static final int MIN = Integer.MIN_VALUE;
    private static final int MAX = Integer.MAX_VALUE;
    private static final int[] FAR = {MIN, MIN + 1, -36, -1, 16, 17, 36, 256, 1 << 16, MAX};

    private static void dim(ShapeInference x, int node, int k, int want) {
        CHECK.due("valueDim(" + node + ", " + k + ")", x.valueDim(node, k), want);
    }

    private static void at(ShapeInference x, int node, int idx, int want) {
        CHECK.due("valueAt(" + node + ", " + idx + ")", x.valueAt(node, idx), want);
    }

    private static void noDims(ShapeInference x, int node) {
        for (int k = -1; k <= 2; k++) {
            dim(x, node, k, 0);
        }
    }

    private static void noElements(ShapeInference x, int node) {
        for (int idx = -1; idx <= 36; idx++) {
            at(x, node, idx, 0);
        }
    }

    private static final Start[] NOT_RUN = {Start.EMPTY, Start.SOME, Start.FULL, Start.HOPELESS};

    private static void dimsWithoutARun() {
        CHECK.sentence("valueDim: the run state is RUN_NONE,");
        for (Start start : NOT_RUN) {
            for (int node = -1; node <= 16; node++) {
                noDims(start.make(), node);
            }
        }
        for (int change = 0; change < 3; change++) {
            ShapeInference x = runAndChanged(change);
            for (int node = -1; node <= 16; node++) {
                noDims(x, node);
            }
        }
    }

    /** A run whose state was ended by one of the three calls that end it. */
    private static ShapeInference runAndChanged(int change) {
        ShapeInference x = Start.SOME_RUN.make();
        CHECK.due("readable before", x.valueDim(0, 1), 3);
        CHECK.due("readable before", x.valueAt(9, 35), 965);
        boolean changed = change == 0 ? x.bind(0, 2)
                : change == 1 ? x.setData(9, 0, 1000) : x.addNode(1, 0, 0, 0) == 10;
        CHECK.due("the change", changed, true);
        return x;
    }

    private static void dimsFromTheTrapOn() {
        CHECK.sentence("valueDim: or it is RUN_TRAP and `node` >= `trapNode()`;");
        Start[] trapped = {Start.SOME_TRAPPED, Start.FULL_TRAPPED, Start.HOPELESS_TRAPPED};
        for (Start start : trapped) {
            ShapeInference x = start.make();
            for (int node = x.trapNode(); node <= 16; node++) {
                noDims(x, node);
            }
            CHECK.due(start + ": just before the trap", x.valueDim(x.trapNode() - 1, 0) > 0, true);
        }
        // what an earlier run computed from there on is not readable either
        ShapeInference x = Start.FULL_RUN.make();
        dim(x, 2, 1, 3);
        dim(x, 15, 1, 3);
        x.bind(2, 2);
        x.run();
        for (int node = 2; node <= 16; node++) {
            noDims(x, node);
        }
        dim(x, 1, 0, 2);
        dim(x, 0, 0, 2);
        dim(x, 0, 1, 3);
        for (Program p : trapsOfEachKind()) {
            p.bind(2, 1, 1).run();
            dim(p.x, 2, 0, 2);
            dim(p.x, 3, 0, 2);
            p.bind(3, 1, 1).run();
            CHECK.due("trapNode()", p.x.trapNode(), 2);
            noDims(p.x, 2);
            noDims(p.x, 3);
            dim(p.x, 0, 0, 3);
        }
    }

    /** Node 2 traps if symbol 0 is 3, but not if it is 2. */
    private static Program[] trapsOfEachKind() {
        return new Program[] {
            new Program(3).input(-1, -1).input(2, 2).add(0, 1).transpose(2),
            new Program(3).input(-1, -1).input(2, 2).mul(0, 1).transpose(2),
            new Program(3).input(-1, -1).input(2, 2).matmul(1, 0).transpose(2),
            new Program(3).input(-1, -1).input(2, 2).reshape(0, 2, 2).transpose(2),
        };
    }

    private static void dimsOfNoNode() {
        CHECK.sentence("valueDim: `node` is not an existing index;");
        Start[] run = {Start.EMPTY_RUN, Start.SOME_RUN, Start.FULL_RUN, Start.SOME_TRAPPED};
        for (Start start : run) {
            ShapeInference x = start.make();
            for (int node : FAR) {
                noDims(x, node);
                dim(x, node, MIN, 0);
                dim(x, node, MAX, 0);
            }
            for (int node = start.count; node <= 16; node++) {
                noDims(x, node);
            }
        }
    }

    private static void noSuchDim() {
        CHECK.sentence("valueDim: `k` is not in 0..rankOf(node)-1.");
        ShapeInference x = Start.FULL_RUN.make();
        int[] far = {MIN, MIN + 1, -2, -1, 2, 3, 256, 1 << 16, MAX};
        for (int node = 0; node < 16; node++) {
            for (int k : far) {
                dim(x, node, k, 0);
            }
            for (int k = 0; k < 2; k++) {
                CHECK.due("valueDim(" + node + ", " + k + ") is there", x.valueDim(node, k) > 0,
                        k < x.rankOf(node));
            }
        }
    }

    private static void computedDims() {
        CHECK.sentence("Otherwise it answers dim k of the node's computed shape, a number in 1..D.");
        for (int d = 2; d <= 6; d++) {
            Program p = new Program(d).input(-1, -2).transpose(0).sum(0, 0).input(d, 1);
            for (int a = 1; a <= d; a++) {
                for (int b = 1; b <= d; b++) {
                    p.bind(a, b, 1).run();
                    CHECK.shape(p.x, 0, a, b);
                    CHECK.shape(p.x, 1, b, a);
                    CHECK.shape(p.x, 2, b);
                    CHECK.shape(p.x, 3, d, 1);
                }
            }
        }
    }

    private static void elementsWithoutARun() {
        CHECK.sentence("`valueAt(int node, int idx)` answers 0 in the same cases as `valueDim`, with k"
                + " ignored. (RUN_NONE)");
        for (Start start : NOT_RUN) {
            for (int node = -1; node <= 16; node++) {
                noElements(start.make(), node);
            }
        }
        for (int change = 0; change < 3; change++) {
            ShapeInference x = runAndChanged(change);
            for (int node = -1; node <= 16; node++) {
                noElements(x, node);
            }
        }
    }

    private static void elementsFromTheTrapOn() {
        CHECK.sentence("`valueAt(int node, int idx)` answers 0 in the same cases as `valueDim`, with k"
                + " ignored. (RUN_TRAP)");
        Start[] trapped = {Start.SOME_TRAPPED, Start.FULL_TRAPPED, Start.HOPELESS_TRAPPED};
        for (Start start : trapped) {
            ShapeInference x = start.make();
            for (int node = x.trapNode(); node <= 16; node++) {
                noElements(x, node);
            }
            CHECK.due(start + ": just before the trap", x.valueAt(x.trapNode() - 1, 0) != 0, true);
        }
        ShapeInference x = Start.FULL_RUN.make();
        at(x, 9, 35, 965);
        x.bind(2, 2);
        x.run();
        for (int node = 2; node <= 16; node++) {
            noElements(x, node);
        }
        CHECK.elements(x, 1, 5, 6);
        CHECK.elements(x, 0, -7, 3, 13, 23, 33, 43);
        for (Program p : trapsOfEachKind()) {
            p.bind(2, 1, 1).run();
            CHECK.due("valueAt(2, 0) is there", p.x.valueAt(2, 0) > 0, true);
            CHECK.due("valueAt(3, 3) is there", p.x.valueAt(3, 3) > 0, true);
            p.bind(3, 1, 1).run();
            CHECK.due("trapNode()", p.x.trapNode(), 2);
            noElements(p.x, 2);
            noElements(p.x, 3);
            CHECK.elements(p.x, 1, 1, 2, 3, 4);
        }
    }

    private static void elementsOfNoNode() {
        CHECK.sentence("`valueAt(int node, int idx)` answers 0 in the same cases as `valueDim`, with k"
                + " ignored. (no such node)");
        Start[] run = {Start.EMPTY_RUN, Start.SOME_RUN, Start.FULL_RUN, Start.SOME_TRAPPED};
        for (Start start : run) {
            ShapeInference x = start.make();
            for (int node : FAR) {
                noElements(x, node);
                at(x, node, MIN, 0);
                at(x, node, MAX, 0);
            }
            for (int node = start.count; node <= 16; node++) {
                noElements(x, node);
            }
        }
    }

    private static void rankZeroHasAnElement() {
        CHECK.sentence("with k ignored: a rank 0 node has no dim, but it has an element.");
        Program p = new Program(2).input(0, 0).data(0, 42).run();
        noDims(p.x, 0);
        CHECK.elements(p.x, 0, 42);
        for (int idx = 1; idx <= 36; idx++) {
            at(p.x, 0, idx, 0);
        }
    }

    private static void outsideOfTheCount() {
        CHECK.sentence("It also answers 0 if `idx` is not in 0..n-1, where n is the node's computed"
                + " element count.");
        Program p = new Program(6).input(-1, -2).input(-2, 0).input(6, 6);
        int[] far = {MIN, MIN + 1, -37, -36, -2, -1, 36, 37, 72, 576, 1 << 16, MAX};
        // from the largest to the smallest, so that old elements would show
        for (int a = 6; a >= 1; a--) {
            for (int b = 6; b >= 1; b--) {
                p.bind(a, b, 1).run();
                for (int idx : far) {
                    at(p.x, 0, idx, 0);
                    at(p.x, 1, idx, 0);
                    at(p.x, 2, idx, 0);
                }
                for (int idx = 0; idx < 36; idx++) {
                    at(p.x, 0, idx, idx < a * b ? idx + 1 : 0);
                    at(p.x, 1, idx, idx < b ? idx + 1 : 0);
                    at(p.x, 2, idx, idx + 1);
                }
            }
        }
    }

    private static void flatIndex() {
        CHECK.sentence("Otherwise it answers the element at flat index `idx` of the node's computed"
                + " value, with the layout given above.");
        Program p = new Program(3).input(2, 3).transpose(0).input(3, 0).input(0, 0)
                .data(2, 7, 8, 9).data(3, 6).run();
        CHECK.elements(p.x, 0, 1, 2, 3, 4, 5, 6);
        CHECK.elements(p.x, 1, 1, 4, 2, 5, 3, 6);
        CHECK.elements(p.x, 2, 7, 8, 9);
        CHECK.elements(p.x, 3, 6);
    }

    private static void zeroElements() {
        CHECK.sentence("A computed element may itself be 0.");
        Program p = new Program(2).input(2, 2).mul(0, 0).sum(0, 0).add(2, 2)
                .data(0, 0, 5, 0, -5).run();
        CHECK.elements(p.x, 0, 0, 5, 0, -5);
        CHECK.elements(p.x, 1, 0, 25, 0, 25);
        CHECK.elements(p.x, 2, 0, 0);
        CHECK.elements(p.x, 3, 0, 0);
        CHECK.due("runState()", p.x.runState(), ShapeInference.RUN_OK);
        CHECK.shape(p.x, 3, 2);
    }

    private static void nothingChanges() {
        CHECK.sentence("valueDim, valueAt: Neither method changes anything.");
        int[] asked = {MIN, -1, 0, 1, 2, 3, 9, 15, 16, 35, 36, MAX};
        Unchanged.byAsking(CHECK, "valueDim", x -> {
            for (int node : asked) {
                for (int k : asked) {
                    x.valueDim(node, k);
                }
            }
        });
        Unchanged.byAsking(CHECK, "valueAt", x -> {
            for (int node : asked) {
                for (int idx : asked) {
                    x.valueAt(node, idx);
                }
            }
        });
        // the answers stay when they are asked again and again
        Program p = new Program(3).input(2, 3).transpose(0).input(0, 0).reshape(2, 2, 0).run();
        for (int round = 0; round < 3; round++) {
            CHECK.shape(p.x, 0, 2, 3);
            CHECK.shape(p.x, 1, 3, 2);
            CHECK.shape(p.x, 2);
            CHECK.elements(p.x, 0, 1, 2, 3, 4, 5, 6);
            CHECK.elements(p.x, 1, 1, 4, 2, 5, 3, 6);
            CHECK.elements(p.x, 2, 1);
            CHECK.due("trapNode()", p.x.trapNode(), 3);
        }
    }

    public static void main(String[] args) {
        dimsWithoutARun();
        dimsFromTheTrapOn();
        dimsOfNoNode();
        noSuchDim();
        computedDims();
        elementsWithoutARun();
        elementsFromTheTrapOn();
        elementsOfNoNode();
        rankZeroHasAnElement();
        outsideOfTheCount();
        flatIndex();
        zeroElements();
        nothingChanges();
        CHECK.end();
    }
}
