/** Promise 5: inferred dimensions. */
public final class Promise05Test {
    private static final Check CHECK = new Check("Promise05Test");

    private static void plainShapes() {
        ShapeInference x = new ShapeInference(5);
        x.addNode(1, 0, 0, 0);
        x.addNode(1, 4, 0, 0);
        x.addNode(1, -3, 5, 0);
        x.addNode(1, -2, -1, 0);
        x.addNode(5, 3, 0, 0);
        x.addNode(7, 3, 0, 0);
        x.addNode(7, 3, 1, 0);
        x.addNode(7, 1, 0, 0);
        x.addNode(5, 1, 0, 0);
        CHECK.dims(x, 0);
        CHECK.dims(x, 1, 4);
        CHECK.dims(x, 2, -3, 5);
        CHECK.dims(x, 3, -2, -1);
        CHECK.dims(x, 4, -1, -2);
        CHECK.dims(x, 5, -1);
        CHECK.dims(x, 6, -2);
        CHECK.dims(x, 7);
        CHECK.dims(x, 8, 4);
    }

    private static void broadcasts() {
        ShapeInference x = new ShapeInference(4);
        x.addNode(1, -1, 0, 0);
        x.addNode(1, -2, 0, 0);
        x.addNode(2, 0, 1, 0);
        // (1, 2) gives 2 and (2, 1) gives 2: neither symbol tells it
        CHECK.dims(x, 2, ShapeInference.DIM_VARIES);
        x.addNode(1, 3, 0, 0);
        x.addNode(3, 2, 3, 0);
        CHECK.dims(x, 4, 3);
        CHECK.dims(x, 2, -4);
        CHECK.dims(x, 0, -1);
    }

    private static void fixedBySymbols() {
        ShapeInference x = new ShapeInference(6);
        x.addNode(1, -1, -2, 0);
        x.addNode(1, 5, 3, 0);
        x.addNode(4, 0, 1, 0);
        CHECK.dims(x, 0, -1, 5);
        CHECK.dims(x, 2, -1, 3);
        x.addNode(4, 1, 0, 0);
        CHECK.dims(x, 0, 3, 5);
        CHECK.dims(x, 2, 3, 3);
        CHECK.dims(x, 3, 5, 5);
    }

    private static void smallestSymbol() {
        ShapeInference x = new ShapeInference(4);
        x.addNode(1, -3, -2, 0);
        x.addNode(1, -3, -1, 0);
        CHECK.dims(x, 0, -3, -2);
        x.addNode(4, 0, 1, 0);
        CHECK.dims(x, 0, -2, -2);
        CHECK.dims(x, 1, -2, -1);
        CHECK.dims(x, 2, -2, -1);
        x.addNode(5, 1, 0, 0);
        x.addNode(4, 1, 1, 0);
        CHECK.dims(x, 0, -1, -1);
        CHECK.dims(x, 4, -1, -1);
        // a number goes before a symbol
        x.addNode(1, 2, 2, 0);
        x.addNode(4, 0, 5, 0);
        CHECK.dims(x, 0, 2, 2);
        CHECK.dims(x, 3, 2, 2);
    }

    private static void reshaped() {
        ShapeInference x = new ShapeInference(6);
        x.addNode(1, -1, -2, 0);
        x.addNode(6, 0, -3, 0);
        CHECK.dims(x, 1, -3);
        x.addNode(6, 0, 5, 0);
        // 1 * 5 and 5 * 1 are left
        CHECK.dims(x, 0, -1, -2);
        CHECK.dims(x, 1, 5);
        CHECK.dims(x, 2, 5);
    }

    private static void noAnswer() {
        ShapeInference x = new ShapeInference(3);
        x.addNode(1, 2, 3, 0);
        int[] outside = {Integer.MIN_VALUE, -1, 2, 3, Integer.MAX_VALUE};
        for (int k : outside) {
            CHECK.due("dimOf(0, " + k + ")", x.dimOf(0, k), 0);
            CHECK.due("dimOf(" + k + ", 0)", x.dimOf(k, 0), 0);
        }
        CHECK.due("dimOf(1, 0)", x.dimOf(1, 0), 0);
        CHECK.due("dimOf(15, 0)", x.dimOf(15, 0), 0);
        CHECK.due("dimOf(16, 0)", x.dimOf(16, 0), 0);
        CHECK.dims(x, 0, 2, 3);
        x.addNode(4, 0, 0, 0);
        CHECK.dims(x, 0, 0, 0);
        CHECK.dims(x, 1, 0, 0);
    }

    private static void noInfluence() {
        ShapeInference x = new ShapeInference(3);
        x.addNode(1, -1, -2, 0);
        x.addNode(1, -3, 0, 0);
        x.addNode(2, 0, 1, 0);
        x.bind(0, 3);
        x.bind(1, 2);
        x.bind(2, 3);
        x.setData(0, 0, 9);
        CHECK.dims(x, 0, -1, -2);
        CHECK.dims(x, 2, -1, -4);
        CHECK.due("run", x.run(), false);
        CHECK.dims(x, 2, -1, -4);
        CHECK.due("state kept", x.runState(), 2);
        x.bind(2, 2);
        CHECK.due("run", x.run(), true);
        CHECK.dims(x, 0, -1, -2);
        CHECK.dims(x, 1, -3);
        CHECK.dims(x, 2, -1, -4);
        CHECK.due("state kept", x.runState(), 1);
        CHECK.shape(x, 2, 3, 2);
        CHECK.elements(x, 2, 10, 4, 4, 6, 6, 8);
    }

    public static void main(String[] args) {
        plainShapes();
        broadcasts();
        fixedBySymbols();
        smallestSymbol();
        reshaped();
        noAnswer();
        noInfluence();
        CHECK.end();
    }
}
