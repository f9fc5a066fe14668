/** The boundary cases of promise 6, one method for each sentence. */
public final class Boundary06Test {
    private static final Check CHECK = new Check("Boundary06Test");
    private static final int MIN = Integer.MIN_VALUE;
    private static final int MAX = Integer.MAX_VALUE;
    private static final int[] NO_SYMBOLS = {MIN, MIN + 1, -3, -1, 3, 4, 256, 1 << 16, MAX};

    private static void value(ShapeInference x, int s, int want) {
        CHECK.due("symbolValue(" + s + ")", x.symbolValue(s), want);
    }

    private static void equal(ShapeInference x, int s, int t, boolean want) {
        CHECK.due("symbolsEqual(" + s + ", " + t + ")", x.symbolsEqual(s, t), want);
    }

    /** Nodes that fit iff symbol s is v. */
    private static Program force(Program p, int s, int v, int node) {
        return p.input(-s - 1, 0).reshape(node, v, 0);
    }

    private static void valueOfNoSymbol() {
        CHECK.sentence("`symbolValue(int s)` answers 0 if `s` is not in 0..2");
        Program forced = new Program(6);
        for (int s = 0; s < 3; s++) {
            force(forced, s, s + 4, 2 * s);
        }
        for (int s : NO_SYMBOLS) {
            value(forced.x, s, 0);
            value(new ShapeInference(6), s, 0);
        }
        value(forced.x, 0, 4);
        value(forced.x, 1, 5);
        value(forced.x, 2, 6);
    }

    private static void valueWhenNothingFits() {
        CHECK.sentence("symbolValue: or no instantiation is admissible.");
        for (int s = 0; s < 3; s++) {
            Program p = force(new Program(6), s, 6, 0);
            value(p.x, s, 6);
            p.reshape(0, 1, 0);
            for (int t = 0; t < 3; t++) {
                value(p.x, t, 0);
            }
        }
    }

    private static void everyOneAgrees() {
        CHECK.sentence("Otherwise it answers c if every admissible instantiation gives symbol s the"
                + " value c,");
        for (int d = 2; d <= 6; d++) {
            for (int s = 0; s < 3; s++) {
                for (int c = 1; c <= d; c++) {
                    Program p = force(new Program(d), s, c, 0);
                    for (int t = 0; t < 3; t++) {
                        value(p.x, t, t == s ? c : 0);
                    }
                }
            }
        }
    }

    private static void notAllAgree() {
        CHECK.sentence("and 0 if they do not all agree.");
        for (int d = 2; d <= 6; d++) {
            for (int s = 0; s < 3; s++) {
                // with (D) it must be 1 or D: the first and the last value are left
                Program p = new Program(d).input(-s - 1, 0).input(d, 0).add(0, 1);
                value(p.x, s, 0);
                // without 1 it is D, without D it is 1
                value(p.reshape(0, d, 0).x, s, d);
                Program q = new Program(d).input(-s - 1, 0).input(d, 0).mul(1, 0);
                value(q.reshape(0, 0, 0).x, s, 1);
            }
        }
    }

    private static void valueWithNoNodes() {
        CHECK.sentence("With no nodes it answers 0 for every s, since D is at least 2.");
        int[] given = {MIN, -1, 0, 1, 2, 3, 4, 5, 6, 7, MAX};
        for (int maxDim : given) {
            ShapeInference x = new ShapeInference(maxDim);
            for (int s = -1; s <= 3; s++) {
                value(x, s, 0);
            }
        }
    }

    private static void equalOfNoSymbol() {
        CHECK.sentence("`symbolsEqual(int s, int t)` answers false if `s` or `t` is not in 0..2,");
        Program ones = new Program(6).input(-1, -2).reshape(0, 1, 1).input(-3, 0).reshape(2, 1, 0);
        for (int s : NO_SYMBOLS) {
            for (int t = 0; t < 3; t++) {
                equal(ones.x, s, t, false);
                equal(ones.x, t, s, false);
            }
            for (int t : NO_SYMBOLS) {
                equal(ones.x, s, t, false);
            }
            equal(new ShapeInference(6), s, s, false);
        }
        equal(ones.x, 0, 2, true);
    }

    private static void equalWhenNothingFits() {
        CHECK.sentence("symbolsEqual: or if no instantiation is admissible.");
        Program p = new Program(6).input(2, 0).reshape(0, 3, 0);
        for (int s = 0; s < 3; s++) {
            for (int t = 0; t < 3; t++) {
                equal(p.x, s, t, false);
            }
        }
    }

    private static void everyOneGivesEqual() {
        CHECK.sentence("Otherwise it answers true iff every admissible instantiation gives s and t"
                + " equal values.");
        for (int d = 2; d <= 6; d++) {
            for (int s = 0; s < 3; s++) {
                for (int t = 0; t < 3; t++) {
                    Program p = new Program(d).input(-s - 1, 0).reshape(0, -t - 1, 0);
                    Program differ = force(force(new Program(d), s, 1, 0), t, 2, 2);
                    Program broadcast = new Program(d).input(-s - 1, 0).input(-t - 1, 0).add(0, 1);
                    for (int u = 0; u < 3; u++) {
                        for (int v = 0; v < 3; v++) {
                            boolean same = u == v || u == s && v == t || u == t && v == s;
                            equal(p.x, u, v, same);
                            equal(broadcast.x, u, v, u == v);
                            equal(differ.x, u, v, s != t && u == v);
                        }
                    }
                }
            }
        }
        // forced to the same value is equal as well
        Program forced = force(force(new Program(6), 0, 6, 0), 2, 6, 2);
        equal(forced.x, 0, 2, true);
        equal(forced.x, 2, 0, true);
        equal(forced.x, 0, 1, false);
    }

    private static void equalToItself() {
        CHECK.sentence("So `symbolsEqual(s, s)` is true exactly when s is in 0..2 and `accepted()` is"
                + " true.");
        for (Start start : Start.values()) {
            ShapeInference x = start.make();
            boolean hopeless = start == Start.HOPELESS || start == Start.HOPELESS_TRAPPED;
            CHECK.due(start + ": accepted()", x.accepted(), !hopeless);
            for (int s = -2; s <= 4; s++) {
                equal(x, s, s, s >= 0 && s <= 2 && !hopeless);
            }
        }
    }

    private static void nothingChanges() {
        CHECK.sentence("symbolValue, symbolsEqual: Neither method changes anything,");
        int[] asked = {MIN, -1, 0, 1, 2, 3, MAX};
        Unchanged.byAsking(CHECK, "symbolValue", x -> {
            for (int s : asked) {
                x.symbolValue(s);
            }
        });
        Unchanged.byAsking(CHECK, "symbolsEqual", x -> {
            for (int s : asked) {
                for (int t : asked) {
                    x.symbolsEqual(s, t);
                }
            }
        });
    }

    private static void noInfluence() {
        CHECK.sentence("symbolValue, symbolsEqual: and neither depends on bindings or data.");
        for (Start start : Start.values()) {
            ShapeInference x = start.make();
            ShapeInference y = start.make();
            for (int v = 1; v <= 6; v++) {
                for (int s = 0; s < 3; s++) {
                    x.bind(s, v);
                    x.setData(0, 6 * s + v, MIN + v);
                }
                if (v % 2 == 0) {
                    x.run();
                }
                for (int s = 0; s < 3; s++) {
                    value(x, s, y.symbolValue(s));
                    for (int t = 0; t < 3; t++) {
                        equal(x, s, t, y.symbolsEqual(s, t));
                    }
                }
            }
        }
    }

    public static void main(String[] args) {
        valueOfNoSymbol();
        valueWhenNothingFits();
        everyOneAgrees();
        notAllAgree();
        valueWithNoNodes();
        equalOfNoSymbol();
        equalWhenNothingFits();
        everyOneGivesEqual();
        equalToItself();
        nothingChanges();
        noInfluence();
        CHECK.end();
    }
}
