/** Promise 7: bindings. */
public final class Promise07Test {
    private static final Check CHECK = new Check("Promise07Test");

    private static void bound(ShapeInference x, int a, int b, int c) {
        CHECK.due("boundValue(0)", x.boundValue(0), a);
        CHECK.due("boundValue(1)", x.boundValue(1), b);
        CHECK.due("boundValue(2)", x.boundValue(2), c);
        int[] outside = {Integer.MIN_VALUE, -1, 3, Integer.MAX_VALUE};
        for (int s : outside) {
            CHECK.due("boundValue(" + s + ")", x.boundValue(s), 0);
        }
    }

    private static void setting() {
        ShapeInference x = new ShapeInference(5);
        bound(x, 1, 1, 1);
        CHECK.due("bind(0, 5)", x.bind(0, 5), true);
        bound(x, 5, 1, 1);
        CHECK.due("bind(1, 2)", x.bind(1, 2), true);
        bound(x, 5, 2, 1);
        CHECK.due("bind(2, 3)", x.bind(2, 3), true);
        bound(x, 5, 2, 3);
        CHECK.due("bind(0, 1)", x.bind(0, 1), true);
        bound(x, 1, 2, 3);
    }

    private static void refusals() {
        ShapeInference x = new ShapeInference(4);
        x.bind(0, 2);
        x.bind(1, 3);
        x.bind(2, 4);
        x.addNode(1, -1, 0, 0);
        x.run();
        int[] wrong = {Integer.MIN_VALUE, -3, -1, 0, 5, 6, Integer.MAX_VALUE};
        for (int v : wrong) {
            for (int s = 0; s < 3; s++) {
                CHECK.due("bind(" + s + ", " + v + ")", x.bind(s, v), false);
            }
        }
        int[] outside = {Integer.MIN_VALUE, -1, 3, 4, Integer.MAX_VALUE};
        for (int s : outside) {
            CHECK.due("bind(" + s + ", 1)", x.bind(s, 1), false);
        }
        bound(x, 2, 3, 4);
        CHECK.due("state after refusals", x.runState(), 1);
        CHECK.shape(x, 0, 2);
    }

    private static void endsTheRunState() {
        ShapeInference x = new ShapeInference(4);
        x.addNode(1, -1, 0, 0);
        x.addNode(6, 0, 2, 0);
        CHECK.due("run", x.run(), false);
        CHECK.due("bind(2, 1)", x.bind(2, 1), true);
        CHECK.due("state after the same binding", x.runState(), 0);
        CHECK.due("trap node after the same binding", x.trapNode(), -1);
        CHECK.due("valueDim after the same binding", x.valueDim(0, 0), 0);
        CHECK.due("bind(0, 2)", x.bind(0, 2), true);
        CHECK.due("run", x.run(), true);
        CHECK.elements(x, 1, 1, 2);
        CHECK.due("bind(0, 2)", x.bind(0, 2), true);
        CHECK.due("state after the same binding", x.runState(), 0);
        CHECK.due("valueAt after the same binding", x.valueAt(1, 0), 0);
        CHECK.due("symbolValue", x.symbolValue(0), 2);
        CHECK.due("symbolValue", x.symbolValue(1), 0);
    }

    public static void main(String[] args) {
        setting();
        refusals();
        endsTheRunState();
        CHECK.end();
    }
}
