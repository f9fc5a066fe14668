/** The boundary cases of promise 7, one method for each sentence. */
public final class Boundary07Test {
    private static final Check CHECK = new Check("Boundary07Test");
    private static final int MIN = Integer.MIN_VALUE;
    private static final int MAX = Integer.MAX_VALUE;
    private static final int[] NO_SYMBOLS = {MIN, MIN + 1, -3, -2, -1, 3, 4, 256, 1 << 16, MAX};
    private static final int[] NO_SIZES = {MIN, MIN + 1, -6, -1, 0, 7, 8, 256 + 1, (1 << 16) + 1, MAX};

    private static void bound(ShapeInference x, int a, int b, int c) {
        CHECK.due("boundValue(0)", x.boundValue(0), a);
        CHECK.due("boundValue(1)", x.boundValue(1), b);
        CHECK.due("boundValue(2)", x.boundValue(2), c);
    }

    private static void refused(Start start, int s, int v) {
        String call = start + ": bind(" + s + ", " + v + ")";
        Unchanged.by(CHECK, call, start::make, x -> CHECK.due(call, x.bind(s, v), false));
    }

    private static void usedByRun() {
        CHECK.sentence("`bind(int s, int v)` sets the binding of symbol s, which is the value that"
                + " `run` uses, to v.");
        for (int d = 2; d <= 6; d++) {
            Program p = new Program(d).input(-1, -2).input(-3, 0);
            for (int n = 0; n < d * d * d; n++) {
                int a = n / d / d + 1;
                int b = n / d % d + 1;
                int c = n % d + 1;
                CHECK.due("bind(2, " + c + ")", p.x.bind(2, c), true);
                CHECK.due("bind(0, " + a + ")", p.x.bind(0, a), true);
                CHECK.due("bind(1, " + b + ")", p.x.bind(1, b), true);
                bound(p.x, a, b, c);
                CHECK.due("run()", p.x.run(), true);
                CHECK.shape(p.x, 0, a, b);
                CHECK.shape(p.x, 1, c);
            }
        }
    }

    private static void noSymbol() {
        CHECK.sentence("If `s` is not in 0..2 [..], it answers false and changes nothing.");
        for (Start start : Start.values()) {
            for (int s : NO_SYMBOLS) {
                refused(start, s, 1);
                refused(start, s, 6);
                refused(start, s, 0);
            }
        }
    }

    private static void noSize() {
        CHECK.sentence("If [..] `v` is not in 1..D, it answers false and changes nothing.");
        for (Start start : Start.values()) {
            for (int v : NO_SIZES) {
                for (int s = 0; s < 3; s++) {
                    refused(start, s, v);
                }
            }
        }
        for (int d = 2; d <= 6; d++) {
            for (int s = 0; s < 3; s++) {
                ShapeInference x = new Program(d).bind(2, 2, 2).x;
                for (int v = d + 1; v <= 8; v++) {
                    CHECK.due("D " + d + ": bind(" + s + ", " + v + ")", x.bind(s, v), false);
                    bound(x, 2, 2, 2);
                }
            }
        }
    }

    private static void sets() {
        CHECK.sentence("Otherwise it sets the binding and answers true.");
        for (int d = 2; d <= 6; d++) {
            for (int s = 0; s < 3; s++) {
                for (int v = 1; v <= d; v++) {
                    ShapeInference x = new Program(d).bind(2, 1, 2).x;
                    CHECK.due("D " + d + ": bind(" + s + ", " + v + ")", x.bind(s, v), true);
                    bound(x, s == 0 ? v : 2, s == 1 ? v : 1, s == 2 ? v : 2);
                }
            }
        }
        // a value that fits no instantiation is a binding all the same
        ShapeInference x = new Program(6).input(-1, 0).reshape(0, 2, 0).x;
        CHECK.due("bind(0, 6)", x.bind(0, 6), true);
        CHECK.due("boundValue(0)", x.boundValue(0), 6);
        CHECK.due("symbolValue(0)", x.symbolValue(0), 2);
    }

    private static void runStateEnds() {
        CHECK.sentence("The run state becomes RUN_NONE, even when v equals the old binding.");
        Start[] starts = {Start.EMPTY, Start.EMPTY_RUN, Start.SOME, Start.SOME_RUN,
                Start.SOME_TRAPPED, Start.FULL_RUN, Start.FULL_TRAPPED, Start.HOPELESS_TRAPPED};
        for (Start start : starts) {
            for (int s = 0; s < 3; s++) {
                for (int v = 0; v <= 6; v++) {
                    ShapeInference x = start.make();
                    int value = v == 0 ? x.boundValue(s) : v;
                    CHECK.due(start + ": bind(" + s + ", " + value + ")", x.bind(s, value), true);
                    CHECK.due(start + ": runState()", x.runState(), ShapeInference.RUN_NONE);
                    CHECK.due(start + ": trapNode()", x.trapNode(), -1);
                    CHECK.due(start + ": valueDim(0, 0)", x.valueDim(0, 0), 0);
                    CHECK.due(start + ": valueAt(0, 0)", x.valueAt(0, 0), 0);
                }
            }
        }
    }

    private static void noInfluence() {
        CHECK.sentence("Bindings do not affect admissibility or any inference answer.");
        int[][] bindings = {{1, 1, 1}, {2, 3, 3}, {2, 3, 2}, {6, 6, 6}};
        for (int[] b : bindings) {
            // bound before the nodes are there, and not at all until the end
            Program p = new Program(6).bind(b[0], b[1], b[2]).input(-1, -2).run().input(-3, 0)
                    .add(0, 1).matmul(0, 0).run().reshape(1, 2, 0).bind(1, 2, 1);
            Program q = new Program(6).input(-1, -2).input(-3, 0).add(0, 1).matmul(0, 0)
                    .reshape(1, 2, 0).bind(1, 2, 1);
            Answers.now(p.x).same(CHECK, "bound first", Answers.now(q.x));
            Answers.later(p.x).same(CHECK, "bound first and more calls", Answers.later(q.x));
        }
        for (Start start : Start.values()) {
            for (int v = 1; v <= 6; v++) {
                int value = v;
                Unchanged.butForTheRun(CHECK, start + ": bindings and back", start::make, x -> {
                    for (int s = 0; s < 3; s++) {
                        int old = x.boundValue(s);
                        x.bind(s, value);
                        x.run();
                        x.bind(s, old);
                    }
                });
            }
        }
    }

    private static void readsNoSymbol() {
        CHECK.sentence("`boundValue(int s)` answers the binding of symbol s, or 0 if `s` is not in"
                + " 0..2.");
        ShapeInference x = new Program(6).bind(4, 5, 6).x;
        bound(x, 4, 5, 6);
        for (int s : NO_SYMBOLS) {
            CHECK.due("boundValue(" + s + ")", x.boundValue(s), 0);
        }
    }

    private static void alwaysASize() {
        CHECK.sentence("A binding is always in 1..D.");
        for (int d = 2; d <= 6; d++) {
            ShapeInference x = new ShapeInference(d);
            for (int v = -2; v <= 9; v++) {
                for (int s = 0; s < 3; s++) {
                    x.bind(s, v);
                    int want = v < 1 ? 1 : Math.min(v, d);
                    CHECK.due("D " + d + ": after bind(" + s + ", " + v + ")", x.boundValue(s), want);
                }
            }
            x.bind(0, MIN);
            x.bind(1, MAX);
            bound(x, d, d, d);
        }
    }

    private static void nothingChanges() {
        CHECK.sentence("boundValue: This method changes nothing.");
        Unchanged.byAsking(CHECK, "boundValue", x -> {
            for (int s = 0; s < 3; s++) {
                x.boundValue(s);
            }
            for (int s : NO_SYMBOLS) {
                x.boundValue(s);
            }
        });
    }

    public static void main(String[] args) {
        usedByRun();
        noSymbol();
        noSize();
        sets();
        runStateEnds();
        noInfluence();
        readsNoSymbol();
        alwaysASize();
        nothingChanges();
        CHECK.end();
    }
}
