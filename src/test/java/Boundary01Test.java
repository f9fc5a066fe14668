/** The boundary cases of promise 1, one method for each sentence. */
public final class Boundary01Test {
    private static final Check CHECK = new Check("Boundary01Test");
    private static final int MIN = Integer.MIN_VALUE;
    private static final int MAX = Integer.MAX_VALUE;
    private static final int[] GIVEN = {MIN, MIN + 3, -1, 0, 1, 2, 3, 4, 5, 6, 7, 8, MAX - 3, MAX};
    private static final int[] CLAMPED = {2, 2, 2, 2, 2, 2, 3, 4, 5, 6, 6, 6, 6, 6};

    private static void greatestSize(String when, ShapeInference x, int d) {
        CHECK.due(when + ": admissible or not at D + 1", x.admissible(d + 1, 1, 1), false);
        for (int s = 0; s < 3; s++) {
            int before = x.boundValue(s);
            CHECK.due(when + ": bind(" + s + ", D + 1)", x.bind(s, d + 1), false);
            CHECK.due(when + ": bind(" + s + ", D)", x.bind(s, d), true);
            x.bind(s, before);
        }
    }

    private static void clamping() {
        CHECK.sentence("`ShapeInference(int maxDim)` sets D to `maxDim` clamped into 2..6.");
        for (int i = 0; i < GIVEN.length; i++) {
            ShapeInference x = new ShapeInference(GIVEN[i]);
            greatestSize("maxDim " + GIVEN[i], x, CLAMPED[i]);
            CHECK.due("input of D + 1", x.addNode(1, CLAMPED[i] + 1, 0, 0), -1);
            CHECK.due("input of D", x.addNode(1, CLAMPED[i], 0, 0), 0);
        }
    }

    private static void sizeStays() {
        CHECK.sentence("D never changes afterwards.");
        for (int d = 2; d <= 6; d++) {
            Program p = new Program(d);
            greatestSize("at the start", p.x, d);
            p.run();
            greatestSize("after a run of nothing", p.x, d);
            p.input(d, -1).input(-2, d).input(d, d);
            greatestSize("after inputs", p.x, d);
            p.x.addNode(1, d + 1, 0, 0);
            p.x.bind(0, d + 1);
            greatestSize("after refusals", p.x, d);
            p.bind(d, d, d).run();
            greatestSize("after a run", p.x, d);
            p.input(1, 0).reshape(3, 2, 0).run();
            CHECK.due("accepted()", p.x.accepted(), false);
            greatestSize("after a trap", p.x, d);
            CHECK.due("input of D + 1", p.x.addNode(1, d + 1, 0, 0), -1);
            CHECK.due("input of D", p.x.addNode(1, d, 0, 0), 5);
        }
    }

    private static void noNodes() {
        CHECK.sentence("there are no nodes;");
        for (int maxDim : GIVEN) {
            ShapeInference x = new ShapeInference(maxDim);
            for (int node = -1; node <= 17; node++) {
                CHECK.due("rankOf(" + node + ")", x.rankOf(node), -1);
                CHECK.due("dimOf(" + node + ", 0)", x.dimOf(node, 0), 0);
                CHECK.due("setData(" + node + ", 0, 1)", x.setData(node, 0, 1), false);
            }
            for (int kind = 2; kind <= 7; kind++) {
                CHECK.due("addNode(" + kind + ", 0, 0, 0)", x.addNode(kind, 0, 0, 0), -1);
            }
            CHECK.due("the first node", x.addNode(1, 2, 2, 0), 0);
        }
    }

    private static void firstBindings() {
        CHECK.sentence("the bindings of symbols 0, 1 and 2 are all 1;");
        for (int maxDim : GIVEN) {
            Program p = new Program(maxDim);
            for (int s = -1; s <= 3; s++) {
                CHECK.due("boundValue(" + s + ")", p.x.boundValue(s), s >= 0 && s <= 2 ? 1 : 0);
            }
            p.input(-1, -2).input(-3, 0).run();
            CHECK.shape(p.x, 0, 1, 1);
            CHECK.shape(p.x, 1, 1);
        }
    }

    private static void firstRunState() {
        CHECK.sentence("the run state is RUN_NONE, so `trapNode()` answers -1.");
        for (int maxDim : GIVEN) {
            ShapeInference x = new ShapeInference(maxDim);
            CHECK.due("runState()", x.runState(), ShapeInference.RUN_NONE);
            CHECK.due("trapNode()", x.trapNode(), -1);
        }
    }

    private static void allAdmissible() {
        CHECK.sentence("Since there are no nodes, every instantiation is admissible at the start.");
        for (int i = 0; i < GIVEN.length; i++) {
            ShapeInference x = new ShapeInference(GIVEN[i]);
            int d = CLAMPED[i];
            CHECK.due("accepted()", x.accepted(), true);
            for (int n = 0; n < d * d * d; n++) {
                CHECK.due("an instantiation of D " + d,
                        x.admissible(n / d / d + 1, n / d % d + 1, n % d + 1), true);
            }
        }
    }

    public static void main(String[] args) {
        clamping();
        sizeStays();
        noNodes();
        firstBindings();
        firstRunState();
        allAdmissible();
        CHECK.end();
    }
}
