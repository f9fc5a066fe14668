/** The boundary cases of promise 3, one method for each sentence. */
public final class Boundary03Test {
    private static final Check CHECK = new Check("Boundary03Test");
    private static final int[] SOME_RANKS = {2, 1, 2, 0, 2, 2, 2, 2, 1, 2};

    private static void rank(ShapeInference x, int node, int want) {
        CHECK.due("rankOf(" + node + ")", x.rankOf(node), want);
    }

    private static void noSuchNode() {
        CHECK.sentence("`rankOf(int node)` answers -1 if `node` is not an existing index.");
        int[] far = {Integer.MIN_VALUE, Integer.MIN_VALUE + 1, -16, -1, 16, 17, 256, 1 << 16,
                Integer.MAX_VALUE};
        for (Start start : Start.values()) {
            ShapeInference x = start.make();
            for (int node : far) {
                rank(x, node, -1);
            }
            for (int node = start.count; node <= 16; node++) {
                rank(x, node, -1);
            }
        }
        // each index exists from its node on
        Program p = new Program(2);
        for (int node = 0; node < 16; node++) {
            rank(p.x, node, -1);
            p.input(0, 0);
            rank(p.x, node, 0);
        }
    }

    private static void specs() {
        CHECK.sentence("K_INPUT, K_RESHAPE: the spec's rank.");
        Program p = new Program(6).input(0, 0).input(6, 0).input(-3, 0).input(1, 1).input(-1, 6)
                .reshape(0, 0, 0).reshape(0, 1, 0).reshape(4, -3, 0).reshape(0, 1, 1)
                .reshape(4, -1, 6);
        int[] want = {0, 1, 1, 2, 2, 0, 1, 1, 2, 2};
        for (int node = 0; node < want.length; node++) {
            rank(p.x, node, want[node]);
        }
    }

    private static void elementwise() {
        CHECK.sentence("K_ADD, K_MUL: the maximum of the operands' ranks.");
        for (int a = 0; a < 3; a++) {
            for (int b = 0; b < 3; b++) {
                Program p = new Program(2).input(0, 0).input(2, 0).input(2, 2).add(a, b).mul(a, b);
                rank(p.x, 3, Math.max(a, b));
                rank(p.x, 4, Math.max(a, b));
            }
        }
    }

    private static void matmul() {
        CHECK.sentence("K_MATMUL: 2.");
        Program p = new Program(2).input(1, 1).matmul(0, 0).input(1, 2).matmul(2, 2);
        rank(p.x, 1, 2);
        rank(p.x, 3, 2);
    }

    private static void transpose() {
        CHECK.sentence("K_TRANSPOSE: the operand's rank.");
        Program p = new Program(2).input(0, 0).input(2, 0).input(2, 2).transpose(0).transpose(1)
                .transpose(2);
        rank(p.x, 3, 0);
        rank(p.x, 4, 1);
        rank(p.x, 5, 2);
    }

    private static void sum() {
        CHECK.sentence("K_SUM: the operand's rank minus 1.");
        Program p = new Program(2).input(2, 2).sum(0, 0).sum(0, 1).sum(1, 0).sum(2, 0);
        rank(p.x, 1, 1);
        rank(p.x, 2, 1);
        rank(p.x, 3, 0);
        rank(p.x, 4, 0);
    }

    private static void noInfluence() {
        CHECK.sentence("The rank does not depend on any instantiation or binding,");
        int[][] bindings = {{1, 1, 1}, {2, 3, 3}, {2, 3, 2}, {6, 6, 6}};
        for (int[] b : bindings) {
            ShapeInference x = Start.SOME.make();
            for (int s = 0; s < 3; s++) {
                x.bind(s, b[s]);
            }
            for (int node = 0; node < 10; node++) {
                rank(x, node, SOME_RANKS[node]);
            }
            x.run();
            for (int node = 0; node < 10; node++) {
                rank(x, node, SOME_RANKS[node]);
            }
        }
        // the ranks stand where nothing is admissible: at the trap node and behind it
        Program p = new Program(6).input(2, 3).matmul(0, 0).sum(1, 0).transpose(1).reshape(1, 5, 0)
                .run();
        int[] want = {2, 2, 1, 2, 1};
        CHECK.due("accepted()", p.x.accepted(), false);
        for (int node = 0; node < want.length; node++) {
            rank(p.x, node, want[node]);
        }
    }

    private static void alwaysOneOfFour() {
        CHECK.sentence("and the answer is always -1, 0, 1 or 2.");
        for (Start start : Start.values()) {
            ShapeInference x = start.make();
            for (int node = -20; node <= 40; node++) {
                int got = x.rankOf(node);
                boolean there = node >= 0 && node < start.count;
                CHECK.due("rankOf(" + node + ") is 0, 1 or 2", got >= 0 && got <= 2, there);
                CHECK.due("rankOf(" + node + ") is -1", got == -1, !there);
            }
        }
    }

    private static void nothingChanges() {
        CHECK.sentence("rankOf: Nothing changes.");
        int[] asked = {Integer.MIN_VALUE, -1, 0, 1, 2, 3, 9, 15, 16, Integer.MAX_VALUE};
        Unchanged.byAsking(CHECK, "rankOf", x -> {
            for (int node : asked) {
                x.rankOf(node);
            }
        });
    }

    public static void main(String[] args) {
        noSuchNode();
        specs();
        elementwise();
        matmul();
        transpose();
        sum();
        noInfluence();
        alwaysOneOfFour();
        nothingChanges();
        CHECK.end();
    }
}
