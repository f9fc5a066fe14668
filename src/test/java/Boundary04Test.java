/** The boundary cases of promise 4, one method for each sentence. */
public final class Boundary04Test {
    private static final Check CHECK = new Check("Boundary04Test");
    private static final int MIN = Integer.MIN_VALUE;
    private static final int MAX = Integer.MAX_VALUE;
    private static final int[] FAR = {MIN, MIN + 1, -6, -1, 0, 7, 256 + 1, (1 << 16) + 1, MAX};

    /** A program for which the one instantiation (a, b, c) is admissible. */
    private static Program only(int d, int a, int b, int c) {
        return new Program(d).input(-1, 0).reshape(0, a, 0).input(-2, 0).reshape(2, b, 0)
                .input(-3, 0).reshape(4, c, 0);
    }

    private static void atLeastOne() {
        CHECK.sentence("`accepted()` answers true iff at least one instantiation is admissible for"
                + " the current program.");
        for (int d = 2; d <= 6; d++) {
            for (int a = 1; a <= d; a++) {
                for (int b = 1; b <= d; b++) {
                    for (int c = 1; c <= d; c++) {
                        Program p = only(d, a, b, c);
                        CHECK.due("accepted() for (" + a + ", " + b + ", " + c + ") alone",
                                p.x.accepted(), true);
                        // the last one goes
                        p.reshape(0, a == 1 ? 2 : 1, 0);
                        CHECK.due("accepted() without (" + a + ", " + b + ", " + c + ")",
                                p.x.accepted(), false);
                    }
                }
            }
        }
        Program never = new Program(6).input(6, 6).reshape(0, 6, 5);
        CHECK.due("accepted() when nothing fits", never.x.accepted(), false);
        never.input(-1, -2).transpose(2);
        CHECK.due("accepted() when nothing fits, later", never.x.accepted(), false);
        // the 16th node may be the one that traps
        Program last = new Program(2).input(2, 0);
        for (int node = 1; node < 15; node++) {
            last.transpose(0);
        }
        CHECK.due("accepted() with 15 nodes", last.x.accepted(), true);
        last.reshape(0, 1, 0);
        CHECK.due("accepted() with 16 nodes", last.x.accepted(), false);
    }

    private static void acceptedWithNoNodes() {
        CHECK.sentence("It answers true when there are no nodes.");
        int[] given = {MIN, -1, 0, 1, 2, 3, 4, 5, 6, 7, MAX};
        for (int maxDim : given) {
            CHECK.due("accepted()", new ShapeInference(maxDim).accepted(), true);
        }
        CHECK.due("accepted() after a run", Start.EMPTY_RUN.make().accepted(), true);
    }

    private static void outsideOfSizes() {
        CHECK.sentence("`admissible(int a, int b, int c)` answers false if any of a, b, c is not in"
                + " 1..D.");
        for (int d = 2; d <= 6; d++) {
            ShapeInference x = new ShapeInference(d);
            ShapeInference y = new Program(d).input(-1, -2).input(-3, 0).x;
            int[] wrong = {d + 1, d + 2, MIN, MIN + 1, -1, 0, 256 + 1, (1 << 16) + 1, MAX};
            for (int v : wrong) {
                for (int w = 1; w <= d; w++) {
                    outside(x, v, w);
                    outside(y, v, w);
                }
            }
        }
    }

    private static void outside(ShapeInference x, int v, int w) {
        CHECK.due("admissible(" + v + ", " + w + ", 1)", x.admissible(v, w, 1), false);
        CHECK.due("admissible(1, " + v + ", " + w + ")", x.admissible(1, v, w), false);
        CHECK.due("admissible(" + w + ", 1, " + v + ")", x.admissible(w, 1, v), false);
        CHECK.due("admissible(" + v + ", " + v + ", " + w + ")", x.admissible(v, v, w), false);
        CHECK.due("admissible(" + v + ", " + v + ", " + v + ")", x.admissible(v, v, v), false);
        CHECK.due("admissible(1, 1, 1)", x.admissible(1, 1, 1), true);
    }

    private static void thatInstantiation() {
        CHECK.sentence("Otherwise it answers true iff the instantiation with symbol 0 = a, symbol 1 ="
                + " b and symbol 2 = c is admissible.");
        int d = 4;
        for (int n = 0; n < d * d * d; n++) {
            int a = n / 16 + 1;
            int b = n / 4 % 4 + 1;
            int c = n % 4 + 1;
            ShapeInference x = only(d, a, b, c).x;
            for (int m = 0; m < d * d * d; m++) {
                CHECK.due("(" + a + ", " + b + ", " + c + ") alone: number " + m,
                        x.admissible(m / 16 + 1, m / 4 % 4 + 1, m % 4 + 1), m == n);
            }
        }
        // the edges of D
        for (int size = 2; size <= 6; size++) {
            CHECK.due("all D", only(size, size, size, size).x.admissible(size, size, size), true);
            CHECK.due("all 1", only(size, 1, 1, 1).x.admissible(1, 1, 1), true);
            CHECK.due("all 1 of D", only(size, size, size, size).x.admissible(1, 1, 1), false);
        }
    }

    private static void admissibleWithNoNodes() {
        CHECK.sentence("In particular, with no nodes it answers true for every a, b, c in 1..D.");
        for (int d = 2; d <= 6; d++) {
            ShapeInference x = new ShapeInference(d);
            for (int n = 0; n < 1000; n++) {
                int a = n / 100;
                int b = n / 10 % 10;
                int c = n % 10;
                boolean inside = Math.min(a, Math.min(b, c)) >= 1 && Math.max(a, Math.max(b, c)) <= d;
                CHECK.due("D " + d + ": admissible(" + a + ", " + b + ", " + c + ")",
                        x.admissible(a, b, c), inside);
            }
        }
    }

    private static void nothingChanges() {
        CHECK.sentence("admissible, accepted: Neither method changes anything.");
        Unchanged.byAsking(CHECK, "accepted", ShapeInference::accepted);
        Unchanged.byAsking(CHECK, "admissible", x -> {
            for (int v : FAR) {
                x.admissible(v, 1, 1);
                x.admissible(1, v, 1);
                x.admissible(1, 1, v);
            }
            x.admissible(1, 1, 1);
            x.admissible(2, 3, 2);
            x.admissible(2, 3, 3);
            x.admissible(6, 6, 6);
        });
    }

    private static void noInfluence() {
        CHECK.sentence("Bindings and data have no influence on the answers.");
        for (Start start : Start.values()) {
            ShapeInference x = start.make();
            ShapeInference y = start.make();
            for (int v = 1; v <= 6; v++) {
                for (int s = 0; s < 3; s++) {
                    x.bind(s, v);
                    x.setData(0, 6 * s + v, MIN + v);
                    x.setData(9, 35 - v, MAX);
                }
                if (v % 2 == 0) {
                    x.run();
                }
                CHECK.due(start + ": accepted()", x.accepted(), y.accepted());
                for (int n = 0; n < 512; n++) {
                    CHECK.due(start + ": admissible number " + n,
                            x.admissible(n / 64, n / 8 % 8, n % 8),
                            y.admissible(n / 64, n / 8 % 8, n % 8));
                }
            }
        }
    }

    public static void main(String[] args) {
        atLeastOne();
        acceptedWithNoNodes();
        outsideOfSizes();
        thatInstantiation();
        admissibleWithNoNodes();
        nothingChanges();
        noInfluence();
        CHECK.end();
    }
}
