/** Promise 3: rank of a node. */
public final class Promise03Test {
    private static final Check CHECK = new Check("Promise03Test");

    private static void rank(ShapeInference x, int node, int want) {
        CHECK.due("rankOf(" + node + ")", x.rankOf(node), want);
    }

    public static void main(String[] args) {
        ShapeInference x = new ShapeInference(3);
        rank(x, 0, -1);
        x.addNode(1, 0, 0, 0);
        x.addNode(1, -1, 0, 0);
        x.addNode(1, -1, -2, 0);
        for (int a = 0; a < 3; a++) {
            rank(x, a, a);
        }
        int node = 3;
        for (int a = 0; a < 3; a++) {
            for (int b = 0; b < 3; b++) {
                x.addNode(a < b ? 2 : 3, a, b, 0);
                rank(x, node, Math.max(a, b));
                node++;
            }
        }
        rank(x, node, -1);
        rank(x, 15, -1);
        rank(x, 16, -1);
        rank(x, -1, -1);
        rank(x, Integer.MIN_VALUE, -1);
        rank(x, Integer.MAX_VALUE, -1);

        ShapeInference y = new ShapeInference(3);
        y.addNode(1, 2, 3, 0);
        y.addNode(5, 0, 0, 0);
        rank(y, 1, 2);
        y.addNode(4, 0, 1, 0);
        rank(y, 2, 2);
        y.addNode(7, 2, 0, 0);
        rank(y, 3, 1);
        y.addNode(5, 3, 0, 0);
        rank(y, 4, 1);
        y.addNode(7, 4, 0, 0);
        rank(y, 5, 0);
        y.addNode(5, 5, 0, 0);
        rank(y, 6, 0);
        y.addNode(6, 0, 0, 0);
        rank(y, 7, 0);
        y.addNode(6, 0, 1, 0);
        rank(y, 8, 1);
        y.addNode(6, 5, 1, 1);
        rank(y, 9, 2);
        // the rank stands although node 7 traps always
        CHECK.due("accepted", y.accepted(), false);
        y.bind(0, 3);
        y.run();
        for (int i = 0; i < 10; i++) {
            int[] want = {2, 2, 2, 1, 1, 0, 0, 0, 1, 2};
            rank(y, i, want[i]);
        }
        CHECK.due("state after rankOf", y.runState(), 2);
        CHECK.end();
    }
}
