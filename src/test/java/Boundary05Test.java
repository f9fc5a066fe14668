/** The boundary cases of promise 5, one method for each sentence. */
public final class Boundary05Test {
    private static final Check CHECK = new Check("Boundary05Test");
    private static final int MIN = Integer.MIN_VALUE;
    private static final int MAX = Integer.MAX_VALUE;

    private static void dim(ShapeInference x, int node, int k, int want) {
        CHECK.due("dimOf(" + node + ", " + k + ")", x.dimOf(node, k), want);
    }

    private static void noSuchNode() {
        CHECK.sentence("dimOf: `node` is not an existing index;");
        int[] far = {MIN, MIN + 1, -16, -1, 16, 17, 256, 1 << 16, MAX};
        for (Start start : Start.values()) {
            ShapeInference x = start.make();
            for (int k = -1; k <= 2; k++) {
                for (int node : far) {
                    dim(x, node, k, ShapeInference.DIM_NONE);
                }
                for (int node = start.count; node <= 16; node++) {
                    dim(x, node, k, ShapeInference.DIM_NONE);
                }
            }
        }
        Program p = new Program(2);
        for (int node = 0; node < 16; node++) {
            dim(p.x, node, 0, 0);
            p.input(2, 0);
            dim(p.x, node, 0, 2);
        }
    }

    private static void noSuchDim() {
        CHECK.sentence("dimOf: `k` is not in 0..rankOf(node)-1,");
        int[] far = {MIN, MIN + 1, -2, -1, 2, 3, 256, 1 << 16, MAX};
        Program p = new Program(6).input(5, 4).input(3, 0).input(6, 6);
        for (int k : far) {
            for (int node = 0; node < 3; node++) {
                dim(p.x, node, k, 0);
            }
        }
        dim(p.x, 0, 0, 5);
        dim(p.x, 0, 1, 4);
        dim(p.x, 1, 0, 3);
        dim(p.x, 1, 1, 0);
    }

    private static void rankZero() {
        CHECK.sentence("dimOf: which always holds for a rank 0 node;");
        Program p = new Program(6).input(0, 0).input(5, 0).sum(1, 0).input(1, 1).reshape(3, 0, 0)
                .add(0, 2).transpose(4);
        int[] nodes = {0, 2, 4, 5, 6};
        for (int node : nodes) {
            for (int k = -2; k <= 3; k++) {
                dim(p.x, node, k, 0);
            }
            dim(p.x, node, MIN, 0);
            dim(p.x, node, MAX, 0);
        }
    }

    private static void nothingAdmissible() {
        CHECK.sentence("dimOf: no instantiation is admissible.");
        Program p = new Program(6).input(4, 5).input(-1, 0);
        CHECK.dims(p.x, 0, 4, 5);
        CHECK.dims(p.x, 1, -1);
        p.reshape(0, 6, 3).input(2, 2);
        for (int node = 0; node < 4; node++) {
            for (int k = -1; k <= 2; k++) {
                dim(p.x, node, k, 0);
            }
        }
        // a run of the nodes before the trap does not make them inferred
        p.run();
        dim(p.x, 0, 0, 0);
        CHECK.due("valueDim(0, 0)", p.x.valueDim(0, 0), 4);
    }

    private static void sameValue() {
        CHECK.sentence("If dim k of the node has the same value c in all of them, the answer is c, a"
                + " number in 1..D.");
        for (int d = 2; d <= 6; d++) {
            for (int c = 1; c <= d; c++) {
                Program p = new Program(d).input(c, 0).input(-2, 0).reshape(1, c, 0).input(-2, -2);
                CHECK.dims(p.x, 0, c);
                // a forced symbol is a number too
                CHECK.dims(p.x, 1, c);
                CHECK.dims(p.x, 2, c);
                CHECK.dims(p.x, 3, c, c);
                // and so are the dims when all three are forced
                p.input(-1, -3).reshape(4, 1, 1).input(-3, -1);
                CHECK.dims(p.x, 4, 1, 1);
                CHECK.dims(p.x, 6, 1, 1);
            }
        }
        // the trapping instantiations do not count: (a) with (3) is 3 although a is 1 or 3
        Program q = new Program(3).input(-1, 0).input(3, 0).add(0, 1);
        CHECK.dims(q.x, 2, 3);
        CHECK.dims(q.x, 0, -1);
    }

    private static void smallestSymbol() {
        CHECK.sentence("Otherwise, if some symbol s has a value equal to dim k of the node in every"
                + " one of them, the answer is -(s+1) for the smallest such s.");
        for (int d = 2; d <= 6; d++) {
            CHECK.dims(new Program(d).input(-1, -2).x, 0, -1, -2);
            CHECK.dims(new Program(d).input(-3, 0).x, 0, -3);
            // equal pairs of symbols, then all three
            Program p01 = equal(d, -1, -2);
            CHECK.dims(p01.x, 0, -1);
            CHECK.dims(p01.x, 1, -1);
            CHECK.dims(p01.x, 2, -3);
            Program p02 = equal(d, -1, -3);
            CHECK.dims(p02.x, 0, -1);
            CHECK.dims(p02.x, 1, -2);
            CHECK.dims(p02.x, 2, -1);
            Program p12 = equal(d, -2, -3);
            CHECK.dims(p12.x, 0, -1);
            CHECK.dims(p12.x, 1, -2);
            CHECK.dims(p12.x, 2, -2);
            Program all = equal(d, -2, -3).input(-1, 1).input(1, -3).matmul(7, 6).matmul(6, 7)
                    .reshape(1, -1, 0);
            for (int node = 0; node < 3; node++) {
                CHECK.dims(all.x, node, -1);
            }
        }
    }

    private static void inAFullProgram() {
        CHECK.sentence("This is -1, -2 or -3.");
        for (int d = 2; d <= 6; d++) {
            for (int code = -3; code <= -1; code++) {
                Program p = new Program(d);
                for (int node = 0; node < 16; node++) {
                    p.input(code, node % 2 == 0 ? 0 : code);
                }
                for (int node = 0; node < 16; node++) {
                    dim(p.x, node, 0, code);
                    dim(p.x, node, 1, node % 2 == 0 ? 0 : code);
                }
            }
        }
    }

    /** Nodes 0, 1 and 2 have the symbols for dims; the last node fits iff two of them are equal. */
    private static Program equal(int d, int first, int second) {
        return new Program(d).input(-1, 0).input(-2, 0).input(-3, 0)
                .input(first, 0).reshape(3, second, 0).input(2, 2);
    }

    private static void varies() {
        CHECK.sentence("Otherwise the answer is DIM_VARIES (-4).");
        for (int d = 2; d <= 6; d++) {
            Program p = new Program(d).input(-1, 0).input(-2, 0).add(0, 1).input(-3, 0).mul(2, 3)
                    .input(-1, -2).input(-2, -1).add(5, 6);
            CHECK.dims(p.x, 2, -4);
            CHECK.dims(p.x, 4, -4);
            CHECK.dims(p.x, 7, -4, -4);
            CHECK.due("DIM_VARIES", ShapeInference.DIM_VARIES, -4);
        }
        // one instantiation that differs is enough: (1, 2) for symbol 0, (2, 1) for symbol 1
        Program q = new Program(2).input(-1, 0).input(-2, 0).add(0, 1);
        CHECK.dims(q.x, 2, -4);
        q.reshape(2, -2, 0);
        CHECK.dims(q.x, 2, -2);
        CHECK.dims(q.x, 0, -1);
    }

    private static void noInfluence() {
        CHECK.sentence("dimOf: The answer does not depend on bindings or data.");
        for (Start start : Start.values()) {
            ShapeInference x = start.make();
            ShapeInference y = start.make();
            for (int v = 1; v <= 6; v++) {
                for (int s = 0; s < 3; s++) {
                    x.bind(s, v);
                    x.setData(0, 6 * s + v, MIN + v);
                    x.setData(9, 35 - v, MAX);
                }
                if (v % 2 == 0) {
                    x.run();
                }
                for (int node = -1; node <= 16; node++) {
                    for (int k = -1; k <= 2; k++) {
                        dim(x, node, k, y.dimOf(node, k));
                    }
                }
            }
        }
    }

    private static void nothingChanges() {
        CHECK.sentence("dimOf: Nothing changes.");
        int[] asked = {MIN, -1, 0, 1, 2, 3, 8, 9, 15, 16, MAX};
        Unchanged.byAsking(CHECK, "dimOf", x -> {
            for (int node : asked) {
                for (int k : asked) {
                    x.dimOf(node, k);
                }
            }
        });
    }

    public static void main(String[] args) {
        noSuchNode();
        noSuchDim();
        rankZero();
        nothingAdmissible();
        sameValue();
        smallestSymbol();
        inAFullProgram();
        varies();
        noInfluence();
        nothingChanges();
        CHECK.end();
    }
}
