/** Promise 8: input data. */
public final class Promise08Test {
    private static final Check CHECK = new Check("Promise08Test");

    private static void everyCell() {
        ShapeInference x = new ShapeInference(6);
        for (int node = 0; node < 16; node++) {
            x.addNode(1, 6, 6, 0);
        }
        for (int node = 0; node < 16; node++) {
            for (int i = 0; i < 36; i++) {
                CHECK.due("setData", x.setData(node, i, 1000 * node - i), true);
            }
        }
        CHECK.due("run", x.run(), true);
        for (int node = 0; node < 16; node++) {
            for (int i = 0; i < 36; i++) {
                CHECK.due("valueAt(" + node + ", " + i + ")", x.valueAt(node, i), 1000 * node - i);
            }
        }
    }

    private static void anyInt() {
        ShapeInference x = new ShapeInference(2);
        x.addNode(1, 0, 0, 0);
        int[] values = {Integer.MIN_VALUE, -1, 0, 1, Integer.MAX_VALUE};
        for (int value : values) {
            CHECK.due("setData(0, 0, " + value + ")", x.setData(0, 0, value), true);
            CHECK.due("run", x.run(), true);
            CHECK.elements(x, 0, value);
        }
    }

    private static void refusals() {
        ShapeInference x = new ShapeInference(3);
        CHECK.due("no node", x.setData(0, 0, 5), false);
        x.addNode(1, 3, 3, 0);
        x.addNode(2, 0, 0, 0);
        x.addNode(3, 0, 0, 0);
        x.addNode(4, 0, 0, 0);
        x.addNode(5, 0, 0, 0);
        x.addNode(6, 0, 3, 3);
        x.addNode(7, 0, 0, 0);
        x.run();
        int[] outside = {Integer.MIN_VALUE, -1, 1, 2, 3, 4, 5, 6, 7, 15, 16, Integer.MAX_VALUE};
        for (int node : outside) {
            CHECK.due("setData(" + node + ", 0, 5)", x.setData(node, 0, 5), false);
        }
        int[] cells = {Integer.MIN_VALUE, -36, -1, 36, 37, Integer.MAX_VALUE};
        for (int idx : cells) {
            CHECK.due("setData(0, " + idx + ", 5)", x.setData(0, idx, 5), false);
        }
        CHECK.due("state after refusals", x.runState(), 1);
        CHECK.elements(x, 0, 1, 2, 3, 4, 5, 6, 7, 8, 9);
        x.run();
        CHECK.elements(x, 0, 1, 2, 3, 4, 5, 6, 7, 8, 9);
    }

    private static void endsTheRunState() {
        ShapeInference x = new ShapeInference(3);
        x.addNode(1, -1, 0, 0);
        x.addNode(6, 0, 2, 0);
        CHECK.due("run", x.run(), false);
        CHECK.due("setData(0, 0, 1)", x.setData(0, 0, 1), true);
        CHECK.due("state after the same data", x.runState(), 0);
        CHECK.due("trap node after the same data", x.trapNode(), -1);
        CHECK.due("valueAt after the same data", x.valueAt(0, 0), 0);
        x.bind(0, 2);
        CHECK.due("run", x.run(), true);
        CHECK.due("setData(0, 35, 36)", x.setData(0, 35, 36), true);
        CHECK.due("state after an unread cell", x.runState(), 0);
        CHECK.due("valueDim after an unread cell", x.valueDim(0, 0), 0);
        CHECK.due("symbolValue", x.symbolValue(0), 2);
        CHECK.due("dimOf", x.dimOf(0, 0), 2);
        CHECK.due("binding", x.boundValue(0), 2);
    }

    private static void cellsBeyondTheCount() {
        ShapeInference x = new ShapeInference(3);
        x.addNode(1, -1, -2, 0);
        CHECK.due("setData(0, 8, 80)", x.setData(0, 8, 80), true);
        CHECK.due("setData(0, 3, 30)", x.setData(0, 3, 30), true);
        CHECK.due("run", x.run(), true);
        CHECK.elements(x, 0, 1);
        x.bind(0, 2);
        x.bind(1, 3);
        CHECK.due("run", x.run(), true);
        CHECK.elements(x, 0, 1, 2, 3, 30, 5, 6);
        x.bind(0, 3);
        CHECK.due("run", x.run(), true);
        CHECK.elements(x, 0, 1, 2, 3, 30, 5, 6, 7, 8, 80);
    }

    public static void main(String[] args) {
        everyCell();
        anyInt();
        refusals();
        endsTheRunState();
        cellsBeyondTheCount();
        CHECK.end();
    }
}
