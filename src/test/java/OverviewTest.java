/**
 * "What it is", one method for each sentence, and the one sentence under "Not promised" that
 * still asks for something. The constants and the face are looked at by FaceTest.
 */
public final class OverviewTest {
    private static final Check CHECK = new Check("OverviewTest");
    private static final int[] DATA = {3, -1, 4, 1, -5, 9};

    private static void numbering() {
        CHECK.sentence("a list of at most 16 nodes, numbered from 0 in order of creation.");
        ShapeInference x = new ShapeInference(2);
        for (int node = 0; node < ShapeInference.MAX_NODES; node++) {
            // the kinds in turn; node 0, an input of rank 2, suits each of them
            int kind = node % 7 + 1;
            CHECK.due("addNode(" + kind + ")", add(x, kind), node);
        }
        for (int kind = 1; kind <= 7; kind++) {
            CHECK.due("addNode(" + kind + ") as the 17th", add(x, kind), -1);
        }
        CHECK.due("rankOf(15)", x.rankOf(15), 2);
        CHECK.due("rankOf(16)", x.rankOf(16), -1);
    }

    private static int add(ShapeInference x, int kind) {
        switch (kind) {
            case ShapeInference.K_INPUT: return x.addNode(kind, 2, 2, 0);
            case ShapeInference.K_RESHAPE: return x.addNode(kind, 0, 2, 2);
            default: return x.addNode(kind, 0, 0, 0);
        }
    }

    /** Symbol 0 by symbol 1, a row as long as symbol 2, and every kind of node on them. */
    private static Program everyKind() {
        return new Program(6).input(-1, -2).input(-3, 0).add(0, 1).mul(0, 1).transpose(0)
                .matmul(0, 4).reshape(0, 6, 0).sum(0, 0).sum(0, 1).data(0, DATA).data(1, 10, 20, 30);
    }

    private static void kinds() {
        CHECK.sentence("Nodes are inputs, elementwise addition and multiplication with right-aligned"
                + " broadcasting, matrix product, transpose, reshape to a stated shape, and sum along an"
                + " axis.");
        ShapeInference x = everyKind().bind(2, 3, 3).run().x;
        CHECK.shape(x, 0, 2, 3);
        CHECK.elements(x, 0, DATA);
        CHECK.shape(x, 2, 2, 3);
        CHECK.elements(x, 2, 13, 19, 34, 11, 15, 39);
        CHECK.shape(x, 3, 2, 3);
        CHECK.elements(x, 3, 30, -20, 120, 10, -100, 270);
        CHECK.shape(x, 4, 3, 2);
        CHECK.elements(x, 4, 3, 1, -1, -5, 4, 9);
        CHECK.shape(x, 5, 2, 2);
        CHECK.elements(x, 5, 26, 44, 44, 107);
        CHECK.shape(x, 6, 6);
        CHECK.elements(x, 6, DATA);
        CHECK.shape(x, 7, 3);
        CHECK.elements(x, 7, 4, -6, 13);
        CHECK.shape(x, 8, 2);
        CHECK.elements(x, 8, 6, 5);
    }

    private static void symbols() {
        CHECK.sentence("Shapes may mention three symbolic dimensions, numbered 0, 1 and 2.");
        for (int s = 0; s < 3; s++) {
            ShapeInference x = new Program(6).input(-(s + 1), 5).input(2, 3).reshape(1, 6, -(s + 1)).x;
            CHECK.dims(x, 0, 1, 5);
            CHECK.dims(x, 2, 6, 1);
            for (int t = 0; t < 3; t++) {
                CHECK.due("symbolValue(" + t + ")", x.symbolValue(t), t == s ? 1 : 0);
            }
        }
        ShapeInference x = new ShapeInference(6);
        CHECK.due("addNode with a symbol 3", x.addNode(ShapeInference.K_INPUT, -4, 0, 0), -1);
    }

    private static void sizesThatRun() {
        CHECK.sentence("which concrete sizes of the symbols let the program run without a shape trap,"
                + " and whether any do;");
        ShapeInference x = everyKind().x;
        CHECK.due("accepted()", x.accepted(), true);
        for (int a = 1; a <= 6; a++) {
            for (int b = 1; b <= 6; b++) {
                for (int c = 1; c <= 6; c++) {
                    boolean runs = a * b == 6 && (b == c || b == 1 || c == 1);
                    CHECK.due("admissible(" + a + ", " + b + ", " + c + ")", x.admissible(a, b, c), runs);
                }
            }
        }
        // the product needs a square, and no square has the six elements of the reshape
        ShapeInference none = everyKind().matmul(0, 0).x;
        CHECK.due("accepted()", none.accepted(), false);
        CHECK.due("admissible(2, 3, 3)", none.admissible(2, 3, 3), false);
    }

    private static void forced() {
        CHECK.sentence("which symbols are forced to a value, and which are forced equal;");
        ShapeInference x = new Program(6).input(-1, -2).matmul(0, 0).input(-3, 0).reshape(2, 4, 0).x;
        for (int s = 0; s < 3; s++) {
            CHECK.due("symbolValue(" + s + ")", x.symbolValue(s), s == 2 ? 4 : 0);
            for (int t = 0; t < 3; t++) {
                CHECK.due("symbolsEqual(" + s + ", " + t + ")", x.symbolsEqual(s, t),
                        s == t || s != 2 && t != 2);
            }
        }
    }

    private static void inferred() {
        CHECK.sentence("for every node and dimension, whether it is a fixed number, always equal to a"
                + " symbol, or varying.");
        ShapeInference x = new Program(6).input(-1, -2).input(-3, 0).add(0, 1).input(5, -3).x;
        CHECK.dims(x, 0, -1, -2);
        CHECK.dims(x, 1, -3);
        CHECK.dims(x, 2, -1, ShapeInference.DIM_VARIES);
        CHECK.dims(x, 3, 5, -3);
    }

    private static void kept() {
        CHECK.sentence("It also keeps a concrete binding for each symbol and int data for each input.");
        ShapeInference x = new Program(6).input(-1, 0).input(-2, 0).input(-3, 0).bind(2, 3, 1)
                .data(0, 7, 8).data(1, -1, -2, -3).data(2, 100).x;
        // two runs, as neither the first nor the questions after it may use anything up
        for (int times = 0; times < 2; times++) {
            CHECK.due("run()", x.run(), true);
            CHECK.due("boundValue(0)", x.boundValue(0), 2);
            CHECK.due("boundValue(1)", x.boundValue(1), 3);
            CHECK.due("boundValue(2)", x.boundValue(2), 1);
            CHECK.elements(x, 0, 7, 8);
            CHECK.elements(x, 1, -1, -2, -3);
            CHECK.elements(x, 2, 100);
        }
    }

    private static void firstMisfit() {
        CHECK.sentence("It runs the program on that data element by element, stops at the first node"
                + " whose shapes do not fit, and reports that node.");
        // nodes 2, 3 and 6 can trap: the columns against the row, and six elements
        ShapeInference x = everyKind().bind(2, 3, 2).x;
        CHECK.due("run()", x.run(), false);
        CHECK.due("trapNode()", x.trapNode(), 2);
        x.bind(1, 2);
        CHECK.due("run()", x.run(), false);
        CHECK.due("trapNode()", x.trapNode(), 6);
        CHECK.elements(x, 5, 10, 11, 11, 17);
        x.bind(0, 3);
        CHECK.due("run()", x.run(), true);
        CHECK.due("trapNode()", x.trapNode(), -1);
    }

    private static void readable(ShapeInference x, int count) {
        for (int node = 0; node < 9; node++) {
            boolean read = node < count;
            CHECK.due("valueDim(" + node + ", 0) is told", x.valueDim(node, 0) != 0, read);
            CHECK.due("valueAt(" + node + ", 0) is told", x.valueAt(node, 0) != 0, read);
        }
    }

    private static void readableUntil() {
        CHECK.sentence("The shapes and elements of all nodes (after a trap, only the nodes before the"
                + " trap node) are readable until the run state changes.");
        ShapeInference x = everyKind().bind(2, 3, 3).run().x;
        readable(x, 9);
        x.bind(2, 7);
        x.setData(2, 0, 5);
        x.addNode(ShapeInference.K_SUM, 0, 2, 0);
        readable(x, 9);
        x.bind(2, 2);
        readable(x, 0);
        x.run();
        readable(x, 2);
    }

    private static void forgotten() {
        CHECK.sentence("They are no longer readable through `valueDim` or `valueAt`.");
        for (int row = 2; row <= 3; row++) {
            int before = row == 3 ? 9 : 2;
            ShapeInference x = everyKind().bind(2, 3, row).run().x;
            readable(x, before);
            CHECK.due("bind", x.bind(2, row), true);
            readable(x, 0);
            x.run();
            CHECK.due("setData", x.setData(0, 35, 36), true);
            readable(x, 0);
            x.run();
            readable(x, before);
            CHECK.due("addNode", x.addNode(ShapeInference.K_TRANSPOSE, 1, 0, 0), 9);
            readable(x, 0);
        }
    }

    public static void main(String[] args) {
        numbering();
        kinds();
        symbols();
        sizesThatRun();
        forced();
        inferred();
        kept();
        firstMisfit();
        readableUntil();
        forgotten();
        CHECK.end();
    }
}
