/** Promise 6: forced symbol facts. */
public final class Promise06Test {
    private static final Check CHECK = new Check("Promise06Test");

    private static void values(ShapeInference x, int a, int b, int c) {
        int[] want = {a, b, c};
        for (int s = 0; s < 3; s++) {
            CHECK.due("symbolValue(" + s + ")", x.symbolValue(s), want[s]);
        }
        int[] outside = {Integer.MIN_VALUE, -1, 3, 4, Integer.MAX_VALUE};
        for (int s : outside) {
            CHECK.due("symbolValue(" + s + ")", x.symbolValue(s), 0);
        }
    }

    private static void equals(ShapeInference x, boolean ab, boolean ac, boolean bc) {
        boolean self = x.accepted();
        boolean[] want = {self, ab, ac, ab, self, bc, ac, bc, self};
        for (int s = 0; s < 3; s++) {
            for (int t = 0; t < 3; t++) {
                CHECK.due("symbolsEqual(" + s + ", " + t + ")", x.symbolsEqual(s, t), want[3 * s + t]);
            }
        }
        int[] outside = {Integer.MIN_VALUE, -1, 3, 4, Integer.MAX_VALUE};
        for (int s : outside) {
            CHECK.due("symbolsEqual(" + s + ", 0)", x.symbolsEqual(s, 0), false);
            CHECK.due("symbolsEqual(0, " + s + ")", x.symbolsEqual(0, s), false);
            CHECK.due("symbolsEqual(" + s + ", " + s + ")", x.symbolsEqual(s, s), false);
        }
    }

    private static void noNodes() {
        for (int d = 2; d <= 6; d++) {
            ShapeInference x = new ShapeInference(d);
            values(x, 0, 0, 0);
            equals(x, false, false, false);
        }
    }

    private static void chain() {
        ShapeInference x = new ShapeInference(4);
        x.addNode(1, -1, -2, 0);
        x.addNode(1, -3, 4, 0);
        x.addNode(4, 0, 1, 0);
        values(x, 0, 0, 0);
        equals(x, false, false, true);
        x.addNode(4, 1, 0, 0);
        values(x, 4, 0, 0);
        equals(x, false, false, true);
        x.addNode(4, 0, 0, 0);
        values(x, 4, 4, 4);
        equals(x, true, true, true);
        x.bind(0, 2);
        x.setData(0, 0, 5);
        x.run();
        values(x, 4, 4, 4);
        equals(x, true, true, true);
        CHECK.due("state kept", x.runState(), 2);
        CHECK.due("binding kept", x.boundValue(0), 2);
    }

    private static void firstAndThird() {
        ShapeInference x = new ShapeInference(3);
        x.addNode(1, 1, -1, 0);
        x.addNode(1, -3, 1, 0);
        x.addNode(4, 0, 1, 0);
        values(x, 0, 0, 0);
        equals(x, false, true, false);
    }

    private static void valueOne() {
        ShapeInference x = new ShapeInference(3);
        x.addNode(1, -2, 0, 0);
        x.addNode(6, 0, 0, 0);
        values(x, 0, 1, 0);
        equals(x, false, false, false);
        x.addNode(1, -3, 0, 0);
        x.addNode(6, 2, 2, 0);
        values(x, 0, 1, 2);
        equals(x, false, false, false);
    }

    private static void onlyOnes() {
        ShapeInference x = new ShapeInference(6);
        x.addNode(1, -1, -2, 0);
        x.addNode(6, 0, 0, 0);
        values(x, 1, 1, 0);
        equals(x, true, false, false);
        x.addNode(1, -3, 0, 0);
        x.addNode(6, 2, 0, 0);
        values(x, 1, 1, 1);
        equals(x, true, true, true);
    }

    private static void onlyTheLargest() {
        ShapeInference x = new ShapeInference(6);
        x.addNode(1, 6, 6, 0);
        x.addNode(6, 0, -1, -2);
        values(x, 6, 6, 0);
        equals(x, true, false, false);
        x.addNode(6, 0, -3, -2);
        values(x, 6, 6, 6);
        equals(x, true, true, true);
    }

    private static void nothingFits() {
        ShapeInference x = new ShapeInference(3);
        x.addNode(1, -1, 0, 0);
        x.addNode(6, 0, 2, 0);
        values(x, 2, 0, 0);
        x.addNode(6, 0, 3, 0);
        CHECK.due("accepted", x.accepted(), false);
        values(x, 0, 0, 0);
        equals(x, false, false, false);
    }

    public static void main(String[] args) {
        noNodes();
        chain();
        firstAndThird();
        valueOne();
        onlyOnes();
        onlyTheLargest();
        nothingFits();
        CHECK.end();
    }
}
