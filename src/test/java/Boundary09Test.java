/** The boundary cases of promise 9, one method for each sentence. */
public final class Boundary09Test {
    private static final Check CHECK = new Check("Boundary09Test");
    private static final int MIN = Integer.MIN_VALUE;
    private static final int MAX = Integer.MAX_VALUE;
    private static final int NONE = ShapeInference.RUN_NONE;
    private static final int OK = ShapeInference.RUN_OK;
    private static final int TRAP = ShapeInference.RUN_TRAP;

    private static void state(ShapeInference x, int state, int trap) {
        CHECK.due("runState()", x.runState(), state);
        CHECK.due("trapNode()", x.trapNode(), trap);
    }

    private static void runs(ShapeInference x) {
        CHECK.due("run()", x.run(), true);
        state(x, OK, -1);
    }

    private static void traps(ShapeInference x, int node) {
        CHECK.due("run()", x.run(), false);
        state(x, TRAP, node);
    }

    /** A full program in which the nodes that are named trap iff symbol 0 is not 2. */
    private static Program trapping(int... places) {
        Program p = new Program(3).input(-1, 0);
        for (int node = 1; node < 16; node++) {
            boolean named = false;
            for (int place : places) {
                named = named || place == node;
            }
            p = named ? p.reshape(0, 2, 0) : p.transpose(0);
        }
        return p;
    }

    private static void firstTrap() {
        CHECK.sentence("It stops at the first node that traps.");
        // node 0 is an input, so 1 is the least trap node, and 15 is the greatest
        for (int place = 1; place <= 15; place++) {
            Program p = trapping(place, 15);
            traps(p.x, place);
            for (int node = 0; node < 16; node++) {
                CHECK.due("valueDim(" + node + ", 0)", p.x.valueDim(node, 0), node < place ? 1 : 0);
                CHECK.due("valueAt(" + node + ", 0)", p.x.valueAt(node, 0), node < place ? 1 : 0);
            }
        }
    }

    private static void trapped() {
        CHECK.sentence("If a node trapped, the run state becomes RUN_TRAP, that node becomes the trap"
                + " node, and `run` answers false.");
        Program p = trapping(7);
        state(p.x, NONE, -1);
        traps(p.x, 7);
        // again from RUN_TRAP, and from RUN_OK by way of a binding
        traps(p.x, 7);
        p.bind(2, 1, 1);
        runs(p.x);
        p.bind(3, 1, 1);
        traps(p.x, 7);
        // each kind that can trap
        traps(new Program(3).input(2, 0).input(3, 0).add(0, 1).x, 2);
        traps(new Program(3).input(2, 0).input(3, 0).mul(0, 1).x, 2);
        traps(new Program(3).input(2, 3).matmul(0, 0).x, 1);
        traps(new Program(3).input(2, 3).reshape(0, 3, 3).x, 1);
    }

    private static void ok() {
        CHECK.sentence("Otherwise the run state becomes RUN_OK and `run` answers true.");
        Program p = trapping(7).bind(2, 1, 1);
        state(p.x, NONE, -1);
        runs(p.x);
        runs(p.x);
        p.bind(1, 1, 1);
        traps(p.x, 7);
        p.bind(2, 1, 1);
        runs(p.x);
        for (int node = 0; node < 16; node++) {
            CHECK.elements(p.x, node, 1, 2);
        }
    }

    private static void noNodes() {
        CHECK.sentence("This includes the case of no nodes.");
        for (int d = 1; d <= 7; d++) {
            Program p = new Program(d);
            runs(p.x);
            runs(p.x);
            p.bind(2, 1, 2);
            state(p.x, NONE, -1);
            runs(p.x);
            for (int node = -1; node <= 16; node++) {
                CHECK.due("valueDim(" + node + ", 0)", p.x.valueDim(node, 0), 0);
                CHECK.due("valueAt(" + node + ", 0)", p.x.valueAt(node, 0), 0);
            }
        }
    }

    private static void keptBeforeATrap() {
        CHECK.sentence("The shapes and elements computed for the nodes before the trap node are kept"
                + " until the run state changes.");
        kept(Start.SOME_TRAPPED);
        kept(Start.FULL_TRAPPED);
        kept(Start.HOPELESS_TRAPPED);
    }

    private static void keptOfAllNodes() {
        CHECK.sentence("After RUN_OK, that means all nodes.");
        kept(Start.EMPTY_RUN);
        kept(Start.SOME_RUN);
        kept(Start.FULL_RUN);
        ShapeInference x = Start.FULL_RUN.make();
        for (int node = 0; node < 16; node++) {
            CHECK.due("valueAt(" + node + ", 0) is there", x.valueAt(node, 0) != 0, true);
        }
    }

    private static void kept(Start start) {
        Answers before = Answers.now(start.make());
        ShapeInference x = start.make();
        x.addNode(0, 0, 0, 0);
        x.addNode(1, 7, 0, 0);
        x.bind(0, 7);
        x.bind(3, 1);
        x.setData(0, 36, 5);
        x.setData(-1, 0, 5);
        Answers.now(x);
        Answers.now(x).same(CHECK, start + " after questions and refusals", before);
        // a second run of the same computes the same
        x.run();
        Answers.now(x).same(CHECK, start + " after a second run", before);
    }

    private static void wraps() {
        CHECK.sentence("Element arithmetic wraps as Java int arithmetic does.");
        Program p = new Program(2).input(2, 2).add(0, 0).mul(0, 0).matmul(0, 0).sum(1, 0).sum(4, 0)
                .data(0, MAX, MIN, MIN, -1);
        runs(p.x);
        CHECK.elements(p.x, 1, -2, 0, 0, -2);
        CHECK.elements(p.x, 2, 1, 0, 0, 1);
        // MAX * MAX + MIN * MIN, MAX * MIN + MIN * -1, MIN * MAX + -1 * MIN, MIN * MIN + 1
        CHECK.elements(p.x, 3, 1, 0, 0, 1);
        CHECK.elements(p.x, 4, -2, -2);
        CHECK.elements(p.x, 5, -4);
        // powers of two by adding a node to itself: the last one is 2 to the 15 times the first
        Program q = new Program(2).input(0, 0).data(0, (1 << 17) + 1);
        for (int node = 1; node < 16; node++) {
            q.add(node - 1, node - 1);
        }
        runs(q.x);
        CHECK.elements(q.x, 14, MIN + (1 << 14));
        CHECK.elements(q.x, 15, 1 << 15);
    }

    private static Program[] programs() {
        return new Program[] {
            new Program(3),
            new Program(3).input(-1, -2).input(-3, 0).add(0, 1).transpose(2).sum(3, 0),
            new Program(3).input(-1, -2).matmul(0, 0).reshape(0, -3, -3),
            new Program(3).input(-1, -2).input(3, 0).mul(0, 1).matmul(0, 2).sum(2, 1),
            new Program(4).input(-1, -2).reshape(0, -3, 0).input(4, 0).add(1, 2),
            new Program(6).input(-1, -2).reshape(0, 6, 0).input(-3, 0).add(1, 2),
            new Program(2).input(-1, 0).reshape(0, 2, 0).reshape(0, 1, 0),
            trapping(15),
        };
    }

    private static int greatest(int number) {
        int[] d = {3, 3, 3, 3, 4, 6, 2, 3};
        return d[number];
    }

    private static void asAdmissible() {
        CHECK.sentence("Therefore `run()` answers true iff `admissible(boundValue(0), boundValue(1),"
                + " boundValue(2))` would have answered true just before the call.");
        Program[] all = programs();
        for (int number = 0; number < all.length; number++) {
            int d = greatest(number);
            ShapeInference x = all[number].x;
            for (int n = 0; n < d * d * d; n++) {
                all[number].bind(n / d / d + 1, n / d % d + 1, n % d + 1);
                boolean want = x.admissible(n / d / d + 1, n / d % d + 1, n % d + 1);
                CHECK.due("program " + number + ", number " + n, x.run(), want);
            }
        }
    }

    private static void smallestTrap() {
        CHECK.sentence("On a false answer, the trap node is the smallest node index that traps under"
                + " the bindings.");
        for (int a = 1; a <= 3; a++) {
            for (int b = 1; b <= 3; b++) {
                for (int c = 1; c <= 3; c++) {
                    Program p = new Program(3).input(-1, 0).input(-2, 0).input(-3, 0)
                            .reshape(2, 3, 0).reshape(1, 2, 0).reshape(0, 1, 0).reshape(0, 1, 0)
                            .bind(a, b, c);
                    if (c != 3) {
                        traps(p.x, 3);
                    } else if (b != 2) {
                        traps(p.x, 4);
                    } else if (a != 1) {
                        traps(p.x, 5);
                    } else {
                        runs(p.x);
                    }
                }
            }
        }
        traps(trapping(15).x, 15);
        traps(trapping(1, 2, 15).x, 1);
    }

    private static void computedAsNumber() {
        CHECK.sentence("if d >= 1, then `valueDim(v, k)` == d;");
        everyComputedDim((x, node, k, inferred, d) -> {
            if (inferred >= 1) {
                CHECK.due("valueDim(" + node + ", " + k + ")", x.valueDim(node, k), inferred);
            }
        });
    }

    private static void computedAsSymbol() {
        CHECK.sentence("if d is -1, -2 or -3, then `valueDim(v, k)` == `boundValue(-d-1)`;");
        everyComputedDim((x, node, k, inferred, d) -> {
            if (inferred <= -1 && inferred >= -3) {
                CHECK.due("valueDim(" + node + ", " + k + ")",
                        x.valueDim(node, k), x.boundValue(-inferred - 1));
            }
        });
    }

    private static void computedAndVarying() {
        CHECK.sentence("if d == DIM_VARIES, then 1 <= `valueDim(v, k)` <= D.");
        everyComputedDim((x, node, k, inferred, d) -> {
            if (inferred == ShapeInference.DIM_VARIES) {
                int got = x.valueDim(node, k);
                CHECK.due("valueDim(" + node + ", " + k + ") in 1..D", got >= 1 && got <= d, true);
            }
            CHECK.due("dimOf(" + node + ", " + k + ") is one of the three",
                    inferred >= -4 && inferred <= d && inferred != 0, true);
        });
    }

    private interface ComputedDim {
        void look(ShapeInference x, int node, int k, int inferred, int d);
    }

    /** Every dim of every node, right after every run that answers true. */
    private static void everyComputedDim(ComputedDim dim) {
        Program[] all = programs();
        for (int number = 0; number < all.length; number++) {
            int d = greatest(number);
            ShapeInference x = all[number].x;
            for (int n = 0; n < d * d * d; n++) {
                all[number].bind(n / d / d + 1, n / d % d + 1, n % d + 1);
                boolean ran = x.run();
                for (int node = 0; ran && node < 16; node++) {
                    for (int k = 0; k < x.rankOf(node); k++) {
                        dim.look(x, node, k, x.dimOf(node, k), d);
                    }
                }
            }
        }
    }

    private static void computedBeforeATrap() {
        CHECK.sentence("When it answers false, 1 <= `valueDim(v, k)` <= D for every node v before the"
                + " trap node and every k in 0..rankOf(v)-1.");
        Program[] all = programs();
        for (int number = 0; number < all.length; number++) {
            int d = greatest(number);
            ShapeInference x = all[number].x;
            for (int n = 0; n < d * d * d; n++) {
                all[number].bind(n / d / d + 1, n / d % d + 1, n % d + 1);
                if (!x.run()) {
                    CHECK.due("trapNode() is behind an input", x.trapNode() >= 1, true);
                    for (int i = 0; i < 2 * x.trapNode(); i++) {
                        int got = x.valueDim(i / 2, i % 2);
                        CHECK.due("valueDim(" + i / 2 + ", " + i % 2 + ") in 1..D",
                                got >= 1 && got <= d, i % 2 < x.rankOf(i / 2));
                    }
                }
            }
        }
    }

    private static void changesNoProgram() {
        CHECK.sentence("`run` does not change nodes, bindings or data.");
        for (Start start : Start.values()) {
            Unchanged.butForTheRun(CHECK, start + ": run", start::make, ShapeInference::run);
            Unchanged.butForTheRun(CHECK, start + ": run twice", start::make, x -> {
                x.run();
                x.run();
            });
        }
        // every cell of every input, in runs that end well and in runs that trap
        Program p = new Program(6);
        for (int node = 0; node < 15; node++) {
            p.input(6, 6);
            for (int i = 0; i < 36; i++) {
                p.x.setData(node, i, 100 * node - i);
            }
        }
        p.reshape(0, 6, -3).bind(4, 5, 6);
        for (int round = 0; round < 3; round++) {
            CHECK.due("run()", p.x.run(), round != 1);
            for (int i = 0; i < 15 * 36; i++) {
                CHECK.due("valueAt(" + i / 36 + ", " + i % 36 + ")",
                        p.x.valueAt(i / 36, i % 36), 100 * (i / 36) - i % 36);
            }
            CHECK.due("boundValue(0)", p.x.boundValue(0), 4);
            CHECK.due("boundValue(1)", p.x.boundValue(1), 5);
            CHECK.due("boundValue(2)", p.x.boundValue(2), round == 1 ? 2 : 6);
            p.x.bind(2, round == 0 ? 2 : 6);
        }
    }

    private static void states() {
        CHECK.sentence("`runState()` answers RUN_NONE, RUN_OK or RUN_TRAP.");
        for (Start start : Start.values()) {
            CHECK.due(start + ": runState()", start.make().runState(), start.runState);
        }
    }

    private static void trapNodes() {
        CHECK.sentence("`trapNode()` answers the trap node if the run state is RUN_TRAP, and -1"
                + " otherwise.");
        for (Start start : Start.values()) {
            CHECK.due(start + ": trapNode()", start.make().trapNode(), start.trapNode);
        }
        // each change of the state takes the trap node away
        Program p = trapping(5);
        traps(p.x, 5);
        p.x.setData(0, 0, 1);
        state(p.x, NONE, -1);
        traps(p.x, 5);
        p.x.bind(2, 1);
        state(p.x, NONE, -1);
        traps(p.x, 5);
        p.bind(2, 1, 1);
        runs(p.x);
        Program q = new Program(2).input(1, 0).reshape(0, 2, 0);
        traps(q.x, 1);
        q.input(0, 0);
        state(q.x, NONE, -1);
    }

    private static void askingChangesNothing() {
        CHECK.sentence("runState, trapNode: Neither changes anything.");
        Unchanged.byAsking(CHECK, "runState", ShapeInference::runState);
        Unchanged.byAsking(CHECK, "trapNode", ShapeInference::trapNode);
        // the answers stay when they are asked again and again
        Program ok = trapping(5).bind(2, 1, 1).run();
        Program trap = trapping(5).bind(3, 1, 1).run();
        for (int round = 0; round < 3; round++) {
            state(ok.x, OK, -1);
            CHECK.elements(ok.x, 0, 1, 2);
            CHECK.elements(ok.x, 15, 1, 2);
            state(trap.x, TRAP, 5);
            CHECK.elements(trap.x, 0, 1, 2, 3);
            CHECK.elements(trap.x, 4, 1, 2, 3);
        }
    }

    public static void main(String[] args) {
        firstTrap();
        trapped();
        ok();
        noNodes();
        keptBeforeATrap();
        keptOfAllNodes();
        wraps();
        asAdmissible();
        smallestTrap();
        computedAsNumber();
        computedAsSymbol();
        computedAndVarying();
        computedBeforeATrap();
        changesNoProgram();
        states();
        trapNodes();
        askingChangesNothing();
        CHECK.end();
    }
}
