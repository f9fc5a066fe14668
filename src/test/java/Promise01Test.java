/** Promise 1: construction and start state. */
public final class Promise01Test {
    private static final Check CHECK = new Check("Promise01Test");

    /** D shows in bind, in admissible and in the codes of a spec. */
    private static void sizeIs(int maxDim, int d) {
        String made = "maxDim " + maxDim + ": ";
        ShapeInference x = new ShapeInference(maxDim);
        CHECK.due(made + "bind(0, D)", x.bind(0, d), true);
        CHECK.due(made + "bind(0, D + 1)", x.bind(0, d + 1), false);
        CHECK.due(made + "admissible(D, D, D)", x.admissible(d, d, d), true);
        CHECK.due(made + "admissible(1, 1, D + 1)", x.admissible(1, 1, d + 1), false);
        CHECK.due(made + "input of D + 1", x.addNode(ShapeInference.K_INPUT, d + 1, 0, 0), -1);
        CHECK.due(made + "input of D", x.addNode(ShapeInference.K_INPUT, d, 0, 0), 0);
        CHECK.due(made + "bind(0, D) later", x.bind(0, d), true);
        CHECK.due(made + "bind(0, D + 1) later", x.bind(0, d + 1), false);
    }

    private static void startState(int maxDim) {
        String made = "maxDim " + maxDim + ": ";
        ShapeInference x = new ShapeInference(maxDim);
        CHECK.due(made + "runState", x.runState(), ShapeInference.RUN_NONE);
        CHECK.due(made + "trapNode", x.trapNode(), -1);
        CHECK.due(made + "accepted", x.accepted(), true);
        for (int s = 0; s < 3; s++) {
            CHECK.due(made + "boundValue(" + s + ")", x.boundValue(s), 1);
            CHECK.due(made + "symbolValue(" + s + ")", x.symbolValue(s), 0);
        }
        for (int node = -1; node < 17; node++) {
            CHECK.due(made + "rankOf", x.rankOf(node), -1);
            CHECK.due(made + "dimOf", x.dimOf(node, 0), 0);
            CHECK.due(made + "valueDim", x.valueDim(node, 0), 0);
            CHECK.due(made + "valueAt", x.valueAt(node, 0), 0);
            CHECK.due(made + "setData", x.setData(node, 0, 1), false);
        }
    }

    private static void objectsAreApart() {
        ShapeInference x = new ShapeInference(4);
        ShapeInference y = new ShapeInference(4);
        x.addNode(ShapeInference.K_INPUT, -1, 0, 0);
        x.bind(0, 3);
        x.run();
        CHECK.due("other object: rankOf(0)", y.rankOf(0), -1);
        CHECK.due("other object: boundValue(0)", y.boundValue(0), 1);
        CHECK.due("other object: runState", y.runState(), 0);
    }

    public static void main(String[] args) {
        int[] given = {Integer.MIN_VALUE, -100, -1, 0, 1, 2, 3, 4, 5, 6, 7, 8, 100,
                Integer.MAX_VALUE - 1, Integer.MAX_VALUE};
        int[] clamped = {2, 2, 2, 2, 2, 2, 3, 4, 5, 6, 6, 6, 6, 6, 6};
        for (int i = 0; i < given.length; i++) {
            sizeIs(given[i], clamped[i]);
            startState(given[i]);
        }
        objectsAreApart();
        CHECK.end();
    }
}
