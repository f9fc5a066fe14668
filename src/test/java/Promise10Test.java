/** Promise 10: reading computed values. */
public final class Promise10Test {
    private static final Check CHECK = new Check("Promise10Test");

    private static void unreadable(ShapeInference x, int node) {
        for (int k = -1; k <= 2; k++) {
            CHECK.due("valueDim(" + node + ", " + k + ")", x.valueDim(node, k), 0);
        }
        for (int i = -1; i <= 36; i++) {
            CHECK.due("valueAt(" + node + ", " + i + ")", x.valueAt(node, i), 0);
        }
    }

    private static ShapeInference program() {
        ShapeInference x = new ShapeInference(3);
        x.addNode(1, -1, 3, 0);
        x.addNode(1, -2, 0, 0);
        x.addNode(2, 0, 1, 0);
        x.addNode(1, 0, 0, 0);
        return x;
    }

    private static void beforeARun() {
        ShapeInference x = program();
        for (int node = -1; node <= 16; node++) {
            unreadable(x, node);
        }
    }

    private static void afterARun() {
        ShapeInference x = program();
        x.bind(0, 2);
        x.run();
        CHECK.shape(x, 0, 2, 3);
        CHECK.shape(x, 1, 1);
        CHECK.shape(x, 2, 2, 3);
        CHECK.shape(x, 3);
        CHECK.elements(x, 0, 1, 2, 3, 4, 5, 6);
        CHECK.elements(x, 1, 1);
        CHECK.elements(x, 2, 2, 3, 4, 5, 6, 7);
        CHECK.elements(x, 3, 1);
        int[] outside = {Integer.MIN_VALUE, -1, 4, 5, 15, 16, 17, Integer.MAX_VALUE};
        for (int node : outside) {
            unreadable(x, node);
        }
        int[] far = {Integer.MIN_VALUE, -36, -1, 6, 35, 36, 576, Integer.MAX_VALUE};
        for (int i : far) {
            CHECK.due("valueAt(0, " + i + ")", x.valueAt(0, i), 0);
            CHECK.due("valueDim(0, " + i + ")", x.valueDim(0, i), 0);
            CHECK.due("valueDim(3, " + i + ")", x.valueDim(3, i), 0);
        }
        CHECK.due("valueDim(3, 0)", x.valueDim(3, 0), 0);
        CHECK.due("state kept", x.runState(), 1);
    }

    private static void afterATrap() {
        ShapeInference x = program();
        x.bind(0, 2);
        x.bind(1, 3);
        x.run();
        CHECK.elements(x, 2, 2, 4, 6, 5, 7, 9);
        x.bind(1, 2);
        CHECK.due("run", x.run(), false);
        CHECK.due("trapNode", x.trapNode(), 2);
        CHECK.shape(x, 0, 2, 3);
        CHECK.elements(x, 0, 1, 2, 3, 4, 5, 6);
        CHECK.shape(x, 1, 2);
        CHECK.elements(x, 1, 1, 2);
        for (int node = 2; node <= 16; node++) {
            unreadable(x, node);
        }
        unreadable(x, -1);
        CHECK.due("state kept", x.runState(), 2);
    }

    private static void afterAChange() {
        for (int change = 0; change < 3; change++) {
            ShapeInference x = program();
            x.bind(1, 3);
            x.run();
            CHECK.due("readable", x.valueAt(2, 2), 6);
            if (change == 0) {
                x.bind(1, 3);
            } else if (change == 1) {
                x.setData(3, 0, 1);
            } else {
                x.addNode(1, 2, 0, 0);
            }
            for (int node = -1; node <= 16; node++) {
                unreadable(x, node);
            }
            x.run();
            CHECK.due("readable again", x.valueAt(2, 2), 6);
        }
    }

    /** A smaller value does not show the elements of a larger one before it. */
    private static void noOldElements() {
        ShapeInference x = program();
        x.bind(0, 3);
        x.bind(1, 3);
        x.run();
        CHECK.elements(x, 2, 2, 4, 6, 5, 7, 9, 8, 10, 12);
        x.bind(0, 1);
        x.run();
        CHECK.shape(x, 2, 1, 3);
        CHECK.elements(x, 2, 2, 4, 6);
        for (int i = 3; i <= 36; i++) {
            CHECK.due("valueAt(2, " + i + ")", x.valueAt(2, i), 0);
        }
    }

    private static void zeroElements() {
        ShapeInference x = new ShapeInference(2);
        x.addNode(1, 2, 0, 0);
        x.setData(0, 0, 0);
        x.run();
        CHECK.elements(x, 0, 0, 2);
    }

    public static void main(String[] args) {
        beforeARun();
        afterARun();
        afterATrap();
        afterAChange();
        noOldElements();
        zeroElements();
        CHECK.end();
    }
}
