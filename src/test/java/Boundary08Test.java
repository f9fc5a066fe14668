/** The boundary cases of promise 8, one method for each sentence. */
public final class Boundary08Test {
    private static final Check CHECK = new Check("Boundary08Test");
    private static final int MIN = Integer.MIN_VALUE;
    private static final int MAX = Integer.MAX_VALUE;
    private static final int[] VALUES = {MIN, -1, 0, 1, 12345, MAX};

    private static void refused(Start start, int node, int idx, int value) {
        String call = start + ": setData(" + node + ", " + idx + ", " + value + ")";
        Unchanged.by(CHECK, call, start::make,
                x -> CHECK.due(call, x.setData(node, idx, value), false));
    }

    private static void setsOneCell() {
        CHECK.sentence("`setData(int node, int idx, int value)` sets data cell `idx` of `node` to"
                + " `value`.");
        int[] nodes = {0, 1, 7, 15};
        for (int node : nodes) {
            for (int idx = 0; idx < 36; idx++) {
                Program p = new Program(6);
                for (int i = 0; i < 16; i++) {
                    p.input(6, 6);
                }
                CHECK.due("setData(" + node + ", " + idx + ", -9)", p.x.setData(node, idx, -9), true);
                CHECK.due("run()", p.x.run(), true);
                for (int i = 0; i < 16 * 36; i++) {
                    boolean set = i / 36 == node && i % 36 == idx;
                    CHECK.due("valueAt(" + i / 36 + ", " + i % 36 + ")", p.x.valueAt(i / 36, i % 36),
                            set ? -9 : i % 36 + 1);
                }
            }
        }
    }

    private static void noInput() {
        CHECK.sentence("If `node` is not an existing K_INPUT node [..], it answers false and changes"
                + " nothing.");
        int[] noNodes = {MIN, MIN + 1, -16, -1, 16, 17, 256, 1 << 16, MAX};
        int[] otherKinds = {2, 4, 5, 6, 7, 8, 11, 12, 13, 14};
        for (Start start : Start.values()) {
            for (int node : noNodes) {
                refused(start, node, 0, 99);
                refused(start, node, 35, 99);
            }
            for (int node = start.count; node < 16; node++) {
                refused(start, node, 0, 99);
            }
            for (int node : otherKinds) {
                if (start.hasSome() && node < start.count) {
                    refused(start, node, 0, 99);
                    refused(start, node, 35, 99);
                }
            }
        }
        refused(Start.HOPELESS, 3, 0, 99);
    }

    private static void noCell() {
        CHECK.sentence("If [..] `idx` is not in 0..35, it answers false and changes nothing.");
        int[] noCells = {MIN, MIN + 1, -36, -1, 36, 37, 72, 256, 1 << 16, MAX};
        for (Start start : Start.values()) {
            for (int idx : noCells) {
                for (int node = 0; node < 4; node++) {
                    refused(start, node, idx, 99);
                }
                refused(start, 9, idx, 99);
                refused(start, 15, idx, 99);
            }
        }
    }

    private static void sets() {
        CHECK.sentence("Otherwise it sets the cell and answers true.");
        Program p = new Program(6).input(0, 0).input(1, 0).input(-1, -2).input(6, 6);
        for (int node = 0; node < 4; node++) {
            for (int idx = -2; idx <= 38; idx++) {
                CHECK.due("setData(" + node + ", " + idx + ", 5)", p.x.setData(node, idx, 5),
                        idx >= 0 && idx <= 35);
            }
        }
    }

    private static void runStateEnds() {
        CHECK.sentence("The run state becomes RUN_NONE, even when the value is unchanged.");
        Start[] starts = {Start.SOME, Start.SOME_RUN, Start.SOME_TRAPPED, Start.FULL_RUN,
                Start.FULL_TRAPPED};
        for (Start start : starts) {
            for (int idx = 0; idx < 36; idx++) {
                // node 9 has 1000 - idx in that cell already
                ends(start, 9, idx, 1000 - idx);
                ends(start, 9, idx, -idx);
                ends(start, 0, idx, 10 * idx - 7);
            }
            ends(start, 3, 35, 36);
        }
        ends(Start.HOPELESS_TRAPPED, 0, 0, 4);
    }

    private static void ends(Start start, int node, int idx, int value) {
        ShapeInference x = start.make();
        CHECK.due(start + ": setData(" + node + ", " + idx + ", " + value + ")",
                x.setData(node, idx, value), true);
        CHECK.due(start + ": runState()", x.runState(), ShapeInference.RUN_NONE);
        CHECK.due(start + ": trapNode()", x.trapNode(), -1);
        CHECK.due(start + ": valueDim(0, 0)", x.valueDim(0, 0), 0);
        CHECK.due(start + ": valueAt(0, 0)", x.valueAt(0, 0), 0);
    }

    private static void anyInt() {
        CHECK.sentence("Any int value is accepted.");
        for (int value : VALUES) {
            Program p = new Program(6).input(6, 6).input(0, 0);
            for (int idx = 0; idx < 36; idx++) {
                CHECK.due("setData(0, " + idx + ", " + value + ")", p.x.setData(0, idx, value), true);
            }
            CHECK.due("setData(1, 0, " + value + ")", p.x.setData(1, 0, value), true);
            CHECK.due("run()", p.x.run(), true);
            for (int idx = 0; idx < 36; idx++) {
                CHECK.due("valueAt(0, " + idx + ")", p.x.valueAt(0, idx), value);
            }
            CHECK.elements(p.x, 1, value);
        }
    }

    private static void keptButNotRead() {
        CHECK.sentence("Cells beyond the node's element count are kept but not read.");
        Program p = new Program(6).input(-1, -2).sum(0, 0).sum(1, 0);
        for (int idx = 0; idx < 36; idx++) {
            p.x.setData(0, idx, 1 << idx % 30);
        }
        int[][] bindings = {{1, 1}, {6, 6}, {1, 6}, {2, 2}, {6, 1}, {5, 6}, {6, 6}, {1, 1}};
        for (int[] b : bindings) {
            p.bind(b[0], b[1], 1);
            CHECK.due("run()", p.x.run(), true);
            int sum = 0;
            for (int idx = 0; idx < 36; idx++) {
                boolean read = idx < b[0] * b[1];
                sum += read ? 1 << idx % 30 : 0;
                CHECK.due("valueAt(0, " + idx + ")", p.x.valueAt(0, idx), read ? 1 << idx % 30 : 0);
            }
            CHECK.elements(p.x, 2, sum);
        }
        // a cell beyond the count, set after a run, is there when the node has grown
        p.bind(2, 2, 1).run();
        CHECK.due("setData(0, 4, 77)", p.x.setData(0, 4, 77), true);
        CHECK.due("setData(0, 35, 78)", p.x.setData(0, 35, 78), true);
        p.run();
        CHECK.elements(p.x, 0, 1, 2, 4, 8);
        p.bind(6, 6, 1).run();
        CHECK.due("valueAt(0, 4)", p.x.valueAt(0, 4), 77);
        CHECK.due("valueAt(0, 35)", p.x.valueAt(0, 35), 78);
    }

    private static void noInfluence() {
        CHECK.sentence("Data affects only the elements computed by `run`, never shapes, traps or"
                + " inference answers.");
        for (Start start : Start.values()) {
            for (int value : VALUES) {
                ShapeInference x = start.make();
                ShapeInference y = start.make();
                for (int i = 0; i < 16 * 36; i++) {
                    x.setData(i / 36, i % 36, value);
                }
                Answers.withoutRun(x).same(CHECK, start + " data of " + value, Answers.withoutRun(y));
                CHECK.due(start + ": run()", x.run(), y.run());
                CHECK.due(start + ": trapNode()", x.trapNode(), y.trapNode());
                for (int node = 0; node < 16; node++) {
                    CHECK.due(start + ": valueDim(" + node + ", 0)",
                            x.valueDim(node, 0), y.valueDim(node, 0));
                    CHECK.due(start + ": valueDim(" + node + ", 1)",
                            x.valueDim(node, 1), y.valueDim(node, 1));
                }
            }
        }
    }

    public static void main(String[] args) {
        setsOneCell();
        noInput();
        noCell();
        sets();
        runStateEnds();
        anyInt();
        keptButNotRead();
        noInfluence();
        CHECK.end();
    }
}
