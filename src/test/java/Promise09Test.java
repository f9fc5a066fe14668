/** Promise 9: running, with the value rule of each kind. */
public final class Promise09Test {
    private static final Check CHECK = new Check("Promise09Test");

    private static void data(ShapeInference x, int node, int... values) {
        for (int i = 0; i < values.length; i++) {
            x.setData(node, i, values[i]);
        }
    }

    private static void runs(ShapeInference x) {
        CHECK.due("run", x.run(), true);
        CHECK.due("runState", x.runState(), ShapeInference.RUN_OK);
        CHECK.due("trapNode", x.trapNode(), -1);
    }

    private static void traps(ShapeInference x, int node) {
        CHECK.due("run", x.run(), false);
        CHECK.due("runState", x.runState(), ShapeInference.RUN_TRAP);
        CHECK.due("trapNode", x.trapNode(), node);
    }

    private static void noNodes() {
        ShapeInference x = new ShapeInference(3);
        runs(x);
        runs(x);
        CHECK.due("valueAt(0, 0)", x.valueAt(0, 0), 0);
        CHECK.due("valueDim(0, 0)", x.valueDim(0, 0), 0);
    }

    private static void broadcasting() {
        ShapeInference x = new ShapeInference(3);
        x.addNode(1, 2, 3, 0);
        x.addNode(1, 3, 0, 0);
        x.addNode(1, 2, 1, 0);
        x.addNode(1, 0, 0, 0);
        data(x, 1, 10, 20, 30);
        data(x, 2, 100, 200);
        data(x, 3, 7);
        x.addNode(2, 0, 1, 0);
        x.addNode(3, 1, 0, 0);
        x.addNode(2, 0, 2, 0);
        x.addNode(2, 2, 1, 0);
        x.addNode(3, 3, 0, 0);
        x.addNode(2, 3, 3, 0);
        x.addNode(3, 1, 1, 0);
        x.addNode(2, 1, 3, 0);
        runs(x);
        CHECK.shape(x, 4, 2, 3);
        CHECK.elements(x, 4, 11, 22, 33, 14, 25, 36);
        CHECK.shape(x, 5, 2, 3);
        CHECK.elements(x, 5, 10, 40, 90, 40, 100, 180);
        CHECK.shape(x, 6, 2, 3);
        CHECK.elements(x, 6, 101, 102, 103, 204, 205, 206);
        CHECK.shape(x, 7, 2, 3);
        CHECK.elements(x, 7, 110, 120, 130, 210, 220, 230);
        CHECK.shape(x, 8, 2, 3);
        CHECK.elements(x, 8, 7, 14, 21, 28, 35, 42);
        CHECK.shape(x, 9);
        CHECK.elements(x, 9, 14);
        CHECK.shape(x, 10, 3);
        CHECK.elements(x, 10, 100, 400, 900);
        CHECK.shape(x, 11, 3);
        CHECK.elements(x, 11, 17, 27, 37);
    }

    private static void rowAgainstColumn() {
        ShapeInference x = new ShapeInference(3);
        x.addNode(1, 1, 3, 0);
        x.addNode(1, 2, 1, 0);
        x.addNode(3, 0, 1, 0);
        x.addNode(1, 1, 0, 0);
        x.addNode(2, 3, 0, 0);
        runs(x);
        CHECK.shape(x, 2, 2, 3);
        CHECK.elements(x, 2, 1, 2, 3, 2, 4, 6);
        CHECK.shape(x, 4, 1, 3);
        CHECK.elements(x, 4, 2, 3, 4);
    }

    private static void products() {
        ShapeInference x = new ShapeInference(4);
        x.addNode(1, 2, 3, 0);
        x.addNode(1, 3, 4, 0);
        x.addNode(4, 0, 1, 0);
        x.addNode(1, 2, 1, 0);
        x.addNode(1, 1, 2, 0);
        x.addNode(4, 3, 4, 0);
        x.addNode(4, 4, 3, 0);
        x.addNode(1, 3, 1, 0);
        data(x, 7, 2, 3, 4);
        x.addNode(1, 1, 2, 0);
        data(x, 8, 10, 20);
        x.addNode(4, 7, 8, 0);
        runs(x);
        CHECK.shape(x, 9, 3, 2);
        CHECK.elements(x, 9, 20, 40, 30, 60, 40, 80);
        CHECK.shape(x, 2, 2, 4);
        CHECK.elements(x, 2, 38, 44, 50, 56, 83, 98, 113, 128);
        CHECK.shape(x, 5, 2, 2);
        CHECK.elements(x, 5, 1, 2, 2, 4);
        CHECK.shape(x, 6, 1, 1);
        CHECK.elements(x, 6, 5);
    }

    private static void transposes() {
        ShapeInference x = new ShapeInference(3);
        x.addNode(1, 2, 3, 0);
        x.addNode(5, 0, 0, 0);
        x.addNode(5, 1, 0, 0);
        x.addNode(1, 3, 0, 0);
        x.addNode(5, 3, 0, 0);
        x.addNode(1, 0, 0, 0);
        x.addNode(5, 5, 0, 0);
        runs(x);
        CHECK.shape(x, 1, 3, 2);
        CHECK.elements(x, 1, 1, 4, 2, 5, 3, 6);
        CHECK.shape(x, 2, 2, 3);
        CHECK.elements(x, 2, 1, 2, 3, 4, 5, 6);
        CHECK.shape(x, 4, 3);
        CHECK.elements(x, 4, 1, 2, 3);
        CHECK.shape(x, 6);
        CHECK.elements(x, 6, 1);
    }

    private static void reshapes() {
        ShapeInference x = new ShapeInference(6);
        x.addNode(1, 2, 3, 0);
        x.addNode(5, 0, 0, 0);
        x.addNode(6, 1, 6, 0);
        x.addNode(6, 1, 2, 3);
        x.addNode(6, 2, -1, -2);
        x.addNode(1, 0, 0, 0);
        x.addNode(6, 5, 1, 1);
        x.addNode(6, 6, 0, 0);
        x.bind(0, 1);
        x.bind(1, 6);
        runs(x);
        CHECK.shape(x, 2, 6);
        CHECK.elements(x, 2, 1, 4, 2, 5, 3, 6);
        CHECK.shape(x, 3, 2, 3);
        CHECK.elements(x, 3, 1, 4, 2, 5, 3, 6);
        CHECK.shape(x, 4, 1, 6);
        CHECK.elements(x, 4, 1, 4, 2, 5, 3, 6);
        CHECK.shape(x, 6, 1, 1);
        CHECK.elements(x, 6, 1);
        CHECK.shape(x, 7);
        CHECK.elements(x, 7, 1);
        x.bind(0, 2);
        traps(x, 4);
        CHECK.elements(x, 3, 1, 4, 2, 5, 3, 6);
        CHECK.shape(x, 3, 2, 3);
    }

    private static void sums() {
        ShapeInference x = new ShapeInference(3);
        x.addNode(1, 2, 3, 0);
        x.addNode(7, 0, 0, 0);
        x.addNode(7, 0, 1, 0);
        x.addNode(7, 1, 0, 0);
        x.addNode(7, 2, 0, 0);
        x.addNode(1, 3, 1, 0);
        x.addNode(7, 5, 0, 0);
        x.addNode(7, 5, 1, 0);
        x.addNode(1, 1, 3, 0);
        x.addNode(7, 8, 0, 0);
        x.addNode(7, 8, 1, 0);
        runs(x);
        CHECK.shape(x, 1, 3);
        CHECK.elements(x, 1, 5, 7, 9);
        CHECK.shape(x, 2, 2);
        CHECK.elements(x, 2, 6, 15);
        CHECK.shape(x, 3);
        CHECK.elements(x, 3, 21);
        CHECK.shape(x, 4);
        CHECK.elements(x, 4, 21);
        CHECK.shape(x, 6, 1);
        CHECK.elements(x, 6, 6);
        CHECK.shape(x, 7, 3);
        CHECK.elements(x, 7, 1, 2, 3);
        CHECK.shape(x, 9, 3);
        CHECK.elements(x, 9, 1, 2, 3);
        CHECK.shape(x, 10, 1);
        CHECK.elements(x, 10, 6);
    }

    /** What a larger run left behind is not read by a smaller one. */
    private static void smallerAfterLarger() {
        ShapeInference x = new ShapeInference(3);
        x.addNode(1, -1, -2, 0);
        x.addNode(7, 0, 0, 0);
        x.addNode(7, 0, 1, 0);
        x.addNode(5, 0, 0, 0);
        x.addNode(4, 0, 3, 0);
        x.addNode(2, 0, 1, 0);
        x.bind(0, 3);
        x.bind(1, 3);
        runs(x);
        CHECK.elements(x, 1, 12, 15, 18);
        CHECK.elements(x, 2, 6, 15, 24);
        CHECK.elements(x, 4, 14, 32, 50, 32, 77, 122, 50, 122, 194);
        x.bind(0, 2);
        x.bind(1, 2);
        runs(x);
        CHECK.elements(x, 1, 4, 6);
        CHECK.elements(x, 2, 3, 7);
        CHECK.elements(x, 3, 1, 3, 2, 4);
        CHECK.elements(x, 4, 5, 11, 11, 25);
        CHECK.elements(x, 5, 5, 8, 7, 10);
    }

    /** The last node of a full program at the greatest size, for each kind. */
    private static void fullLastNode() {
        for (int kind = 1; kind <= 7; kind++) {
            ShapeInference x = new ShapeInference(6);
            for (int i = 0; i < 15; i++) {
                x.addNode(1, 6, 6, 0);
            }
            int y = kind == 1 || kind == 6 ? 6 : kind == 7 ? 1 : 13;
            int added = x.addNode(kind, kind == 1 ? 6 : 14, y, 6);
            CHECK.due("last node of kind " + kind, added, 15);
            runs(x);
            int[] corner = {36, 72, 36 * 36, 0, 36, 36, 0};
            for (int t = 0; t < 6; t++) {
                corner[3] += (31 + t) * (6 * t + 6);
            }
            if (kind == 7) {
                CHECK.shape(x, 15, 6);
                CHECK.elements(x, 15, 21, 57, 93, 129, 165, 201);
            } else {
                CHECK.shape(x, 15, 6, 6);
                CHECK.due("corner of kind " + kind, x.valueAt(15, 35), corner[kind - 1]);
            }
            CHECK.due("outside of kind " + kind, x.valueAt(15, 36), 0);
        }
    }

    private static void wrapping() {
        int max = Integer.MAX_VALUE;
        int min = Integer.MIN_VALUE;
        ShapeInference x = new ShapeInference(2);
        x.addNode(1, 2, 2, 0);
        data(x, 0, max, 1, min, -1);
        x.addNode(2, 0, 0, 0);
        x.addNode(3, 0, 0, 0);
        x.addNode(4, 0, 0, 0);
        x.addNode(7, 0, 0, 0);
        x.addNode(7, 0, 1, 0);
        runs(x);
        CHECK.elements(x, 1, -2, 2, 0, -2);
        CHECK.elements(x, 2, 1, 1, 0, 1);
        CHECK.elements(x, 3, min + 1, max - 1, 0, min + 1);
        CHECK.elements(x, 4, -1, 0);
        CHECK.elements(x, 5, min, max);
    }

    private static void everythingAtTheLargest() {
        ShapeInference x = new ShapeInference(6);
        x.addNode(1, 6, 6, 0);
        for (int i = 1; i < 16; i++) {
            x.addNode(5, i - 1, 0, 0);
        }
        runs(x);
        for (int i = 0; i < 6; i++) {
            for (int j = 0; j < 6; j++) {
                CHECK.due("transposed 15 times", x.valueAt(15, i * 6 + j), j * 6 + i + 1);
            }
        }
        ShapeInference y = new ShapeInference(6);
        y.addNode(1, 6, 6, 0);
        y.addNode(4, 0, 0, 0);
        runs(y);
        for (int i = 0; i < 6; i++) {
            for (int j = 0; j < 6; j++) {
                int want = 0;
                for (int t = 0; t < 6; t++) {
                    want += (i * 6 + t + 1) * (t * 6 + j + 1);
                }
                CHECK.due("6 by 6 product", y.valueAt(1, i * 6 + j), want);
            }
        }
    }

    private static void firstTrapCounts() {
        ShapeInference x = new ShapeInference(4);
        x.addNode(1, -1, -2, 0);
        x.addNode(1, -3, 0, 0);
        x.addNode(2, 0, 1, 0);
        x.addNode(4, 0, 0, 0);
        x.addNode(6, 1, 2, 0);
        x.addNode(1, 3, 0, 0);
        x.bind(0, 2);
        x.bind(1, 3);
        x.bind(2, 4);
        traps(x, 2);
        CHECK.shape(x, 0, 2, 3);
        CHECK.elements(x, 0, 1, 2, 3, 4, 5, 6);
        CHECK.shape(x, 1, 4);
        CHECK.elements(x, 1, 1, 2, 3, 4);
        traps(x, 2);
        x.bind(2, 3);
        traps(x, 3);
        CHECK.elements(x, 2, 2, 4, 6, 5, 7, 9);
        x.bind(0, 3);
        traps(x, 4);
        CHECK.elements(x, 3, 30, 36, 42, 66, 81, 96, 102, 126, 150);
        for (int s = 0; s < 3; s++) {
            x.bind(s, 2);
        }
        runs(x);
        CHECK.elements(x, 4, 1, 2);
        CHECK.elements(x, 5, 1, 2, 3);
        CHECK.due("binding kept", x.boundValue(2), 2);
        runs(x);
        CHECK.elements(x, 3, 7, 10, 15, 22);
    }

    private static void trapAtOnce() {
        ShapeInference x = new ShapeInference(4);
        x.addNode(1, 0, 0, 0);
        x.addNode(6, 0, 2, 0);
        traps(x, 1);
        CHECK.elements(x, 0, 1);
        CHECK.due("valueAt(1, 0)", x.valueAt(1, 0), 0);
    }

    public static void main(String[] args) {
        noNodes();
        broadcasting();
        rowAgainstColumn();
        products();
        transposes();
        reshapes();
        sums();
        smallerAfterLarger();
        fullLastNode();
        wrapping();
        everythingAtTheLargest();
        firstTrapCounts();
        trapAtOnce();
        CHECK.end();
    }
}
