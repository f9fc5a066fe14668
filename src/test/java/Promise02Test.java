/** Promise 2: adding nodes. */
public final class Promise02Test {
    private static final Check CHECK = new Check("Promise02Test");
    private static final int MIN = Integer.MIN_VALUE;
    private static final int MAX = Integer.MAX_VALUE;

    private static void add(ShapeInference x, int kind, int a, int b, int c, int want) {
        CHECK.due("addNode(" + kind + ", " + a + ", " + b + ", " + c + ")",
                x.addNode(kind, a, b, c), want);
    }

    private static void limitOfNodes() {
        ShapeInference x = new ShapeInference(3);
        for (int i = 0; i < 16; i++) {
            add(x, 1, 2, 3, 0, i);
        }
        for (int kind = 0; kind <= 8; kind++) {
            add(x, kind, 0, 0, 0, -1);
        }
        CHECK.due("rankOf(15)", x.rankOf(15), 2);
        CHECK.due("rankOf(16)", x.rankOf(16), -1);
    }

    private static void kinds() {
        ShapeInference x = new ShapeInference(3);
        add(x, 1, 2, 2, 0, 0);
        int[] wrong = {0, -1, 8, 9, MIN, MAX};
        for (int kind : wrong) {
            add(x, kind, 0, 0, 0, -1);
        }
        for (int kind = 1; kind <= 7; kind++) {
            add(x, kind, 0, 0, 0, kind);
        }
    }

    private static void operands() {
        ShapeInference x = new ShapeInference(3);
        for (int kind = 2; kind <= 7; kind++) {
            add(x, kind, 0, 0, 0, -1);
        }
        add(x, 1, 2, 2, 0, 0);
        add(x, 1, 2, 2, 0, 1);
        int[] wrong = {-1, 2, 3, 15, 16, MIN, MAX};
        for (int bad : wrong) {
            for (int kind = 2; kind <= 7; kind++) {
                add(x, kind, bad, 0, 0, -1);
            }
            for (int kind = 2; kind <= 4; kind++) {
                add(x, kind, 0, bad, 0, -1);
            }
        }
        // a node is never its own operand, and the newest one may be
        add(x, 2, 1, 0, 0, 2);
        add(x, 2, 2, 3, 0, -1);
        add(x, 2, 2, 2, 0, 3);
    }

    private static void specs() {
        int[] codes = {MIN, -5, -4, -3, -2, -1, 0, 1, 2, 3, 4, 5, MAX};
        for (int p : codes) {
            for (int q : codes) {
                boolean goodP = p >= -3 && p <= 4 && p != 0;
                boolean goodQ = q >= -3 && q <= 4;
                boolean good = p == 0 ? q == 0 : goodP && goodQ;
                ShapeInference x = new ShapeInference(4);
                add(x, 1, p, q, 0, good ? 0 : -1);
                ShapeInference y = new ShapeInference(4);
                y.addNode(1, 4, 4, 0);
                add(y, 6, 0, p, q, good ? 1 : -1);
            }
        }
    }

    private static void ranksOfOperands() {
        ShapeInference x = new ShapeInference(3);
        add(x, 1, 0, 0, 0, 0);
        add(x, 1, 2, 0, 0, 1);
        add(x, 1, 2, 3, 0, 2);
        for (int a = 0; a < 3; a++) {
            for (int b = 0; b < 3; b++) {
                if (a != 2 || b != 2) {
                    add(x, 4, a, b, 0, -1);
                }
            }
        }
        int[] axes = {MIN, -1, 0, 1, 2, 3, MAX};
        for (int axis : axes) {
            add(x, 7, 0, axis, 0, -1);
            if (axis != 0) {
                add(x, 7, 1, axis, 0, -1);
            }
            if (axis != 0 && axis != 1) {
                add(x, 7, 2, axis, 0, -1);
            }
        }
        add(x, 7, 1, 0, 0, 3);
        add(x, 7, 2, 0, 0, 4);
        add(x, 7, 2, 1, 0, 5);
        // the shapes never fit here, but that is no ground for a refusal
        add(x, 4, 2, 2, 0, 6);
        CHECK.due("accepted", x.accepted(), false);
        add(x, 4, 6, 6, 0, 7);
        CHECK.due("rankOf(7)", x.rankOf(7), 2);
    }

    private static void ignoredArguments() {
        int[] odd = {MIN, -1, 0, 7, 99, MAX};
        for (int z : odd) {
            ShapeInference x = new ShapeInference(3);
            add(x, 1, 2, 2, z, 0);
            add(x, 2, 0, 0, z, 1);
            add(x, 3, 0, 0, z, 2);
            add(x, 4, 0, 0, z, 3);
            add(x, 7, 0, 1, z, 4);
            for (int y : odd) {
                ShapeInference t = new ShapeInference(3);
                t.addNode(1, -1, 3, 0);
                add(t, 5, 0, y, z, 1);
                CHECK.dims(t, 1, 3, -1);
                CHECK.due("run", t.run(), true);
                CHECK.elements(t, 1, 1, 2, 3);
            }
            CHECK.due("run", x.run(), true);
            CHECK.elements(x, 1, 2, 4, 6, 8);
            CHECK.elements(x, 2, 1, 4, 9, 16);
            CHECK.elements(x, 3, 7, 10, 15, 22);
            CHECK.elements(x, 4, 3, 7);
        }
    }

    private static void startingData() {
        ShapeInference x = new ShapeInference(6);
        x.addNode(1, 6, 6, 0);
        x.setData(0, 7, 1000);
        x.addNode(1, 6, 6, 0);
        CHECK.due("run", x.run(), true);
        for (int i = 0; i < 36; i++) {
            CHECK.due("old data " + i, x.valueAt(0, i), i == 7 ? 1000 : i + 1);
            CHECK.due("new data " + i, x.valueAt(1, i), i + 1);
        }
    }

    private static void changesOfState() {
        ShapeInference x = new ShapeInference(3);
        x.addNode(1, -1, 0, 0);
        x.bind(0, 2);
        x.run();
        add(x, 1, 4, 0, 0, -1);
        add(x, 9, 0, 0, 0, -1);
        add(x, 2, 0, 1, 0, -1);
        CHECK.due("state after refusals", x.runState(), 1);
        CHECK.shape(x, 0, 2);
        CHECK.elements(x, 0, 1, 2);
        add(x, 1, 3, 0, 0, 1);
        CHECK.due("state after a node", x.runState(), 0);
        CHECK.due("valueDim after a node", x.valueDim(0, 0), 0);
        CHECK.due("valueAt after a node", x.valueAt(0, 0), 0);
        CHECK.due("binding kept", x.boundValue(0), 2);
        CHECK.due("admissible before", x.admissible(2, 1, 1), true);
        add(x, 2, 0, 1, 0, 2);
        CHECK.due("admissible after", x.admissible(2, 1, 1), false);
        CHECK.due("run", x.run(), false);
        add(x, 2, 2, 2, 2, 3);
        CHECK.due("state after a trap and a node", x.runState(), 0);
        CHECK.due("trap node gone", x.trapNode(), -1);
        CHECK.due("run", x.run(), false);
        CHECK.due("the first trap", x.trapNode(), 2);
        for (int i = 4; i < 16; i++) {
            add(x, 5, 0, 0, 0, i);
        }
        x.run();
        add(x, 5, 0, 0, 0, -1);
        CHECK.due("state after a full refusal", x.runState(), 2);
    }

    public static void main(String[] args) {
        limitOfNodes();
        kinds();
        operands();
        specs();
        ranksOfOperands();
        ignoredArguments();
        startingData();
        changesOfState();
        CHECK.end();
    }
}
