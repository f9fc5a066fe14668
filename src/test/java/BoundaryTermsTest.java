/**
 * The boundary cases of "Terms" up to "Instantiation", one method for each sentence; those of the
 * node kinds are in BoundaryKindsTest.
 */
public final class BoundaryTermsTest {
    private static final Check CHECK = new Check("BoundaryTermsTest");
    private static final int MIN = Integer.MIN_VALUE;
    private static final int MAX = Integer.MAX_VALUE;

    /** D shows wherever a size is given: in bindings, in instantiations and in codes. */
    private static void sizeIs(int maxDim, int d) {
        String made = "maxDim " + maxDim + ": ";
        for (int v = -1; v <= 9; v++) {
            boolean good = v >= 1 && v <= d;
            ShapeInference x = new ShapeInference(maxDim);
            for (int s = 0; s < 3; s++) {
                CHECK.due(made + "bind(" + s + ", " + v + ")", x.bind(s, v), good);
            }
            CHECK.due(made + "admissible(" + v + ", 1, 1)", x.admissible(v, 1, 1), good);
            CHECK.due(made + "admissible(1, " + v + ", 1)", x.admissible(1, v, 1), good);
            CHECK.due(made + "admissible(1, 1, " + v + ")", x.admissible(1, 1, v), good);
            if (v > 0) {
                int first = x.addNode(1, v, 0, 0);
                CHECK.due(made + "input (" + v + ")", first, good ? 0 : -1);
                int second = x.addNode(1, 1, v, 0);
                CHECK.due(made + "input (1, " + v + ")", second, good ? 1 : -1);
            }
        }
        Program largest = new Program(maxDim).input(-1, 0).reshape(0, d, 0);
        CHECK.due(made + "symbolValue(0) if it is D", largest.x.symbolValue(0), d);
    }

    private static void belowTwo() {
        CHECK.sentence("a value below 2 becomes 2");
        sizeIs(1, 2);
        sizeIs(0, 2);
        sizeIs(2, 2);
    }

    private static void aboveSix() {
        CHECK.sentence("a value above 6 becomes 6");
        sizeIs(7, 6);
        sizeIs(8, 6);
        sizeIs(6, 6);
    }

    private static void clamped() {
        CHECK.sentence("D is `maxDim` clamped into 2..6");
        for (int d = 2; d <= 6; d++) {
            sizeIs(d, d);
        }
    }

    private static void everyInt() {
        CHECK.sentence("This holds for every int, including negative values and the extremes of"
                + " int.");
        int[] negative = {-1, -2, -3, -6, -7, -100, -256 + 5, -(1 << 16) + 4, MIN + 4, MIN + 1, MIN};
        for (int maxDim : negative) {
            sizeIs(maxDim, 2);
        }
        // the low bits of some of these are a size in 2..6
        int[] large = {100, 256 + 3, (1 << 16) + 3, (1 << 30) + 4, MAX - 2, MAX - 1, MAX};
        for (int maxDim : large) {
            sizeIs(maxDim, 6);
        }
    }

    private static void threeSymbols() {
        CHECK.sentence("There are three symbols, numbered 0, 1 and 2.");
        for (int s = -2; s <= 5; s++) {
            boolean good = s >= 0 && s <= 2;
            ShapeInference x = new Program(6).bind(4, 4, 4).x;
            CHECK.due("boundValue(" + s + ")", x.boundValue(s), good ? 4 : 0);
            CHECK.due("bind(" + s + ", 5)", x.bind(s, 5), good);
            CHECK.due("boundValue(" + s + ")", x.boundValue(s), good ? 5 : 0);
            CHECK.due("symbolsEqual(" + s + ", " + s + ")", x.symbolsEqual(s, s), good);
            int code = -s - 1;
            if (code < 0) {
                CHECK.due("input (" + code + ")", x.addNode(1, code, 0, 0), good ? 0 : -1);
            }
        }
    }

    private static void sixteenNodes() {
        CHECK.sentence("There are at most 16 nodes.");
        ShapeInference x = new ShapeInference(2);
        for (int i = 0; i < 20; i++) {
            CHECK.due("input number " + i, x.addNode(1, 2, 2, 0), i < 16 ? i : -1);
            CHECK.due("rankOf(" + i + ")", x.rankOf(i), i < 16 ? 2 : -1);
        }
        CHECK.due("run()", x.run(), true);
        CHECK.elements(x, 15, 1, 2, 3, 4);
        CHECK.due("valueAt(16, 0)", x.valueAt(16, 0), 0);
    }

    private static void atMost36Elements() {
        CHECK.sentence("every dim lies in 1..D, so a value has at most 36 elements");
        for (int d = 2; d <= 6; d++) {
            Program p = new Program(d).input(d, d).input(-1, -2).add(0, 1).mul(1, 0).matmul(0, 1)
                    .transpose(4).reshape(0, -1, -2).input(d, 0).input(1, d).input(d, 1)
                    .add(8, 9).matmul(9, 8).mul(7, 9).bind(d, d, d);
            CHECK.due("run()", p.x.run(), true);
            for (int node = 0; node < 13; node++) {
                int count = node == 7 || node == 8 || node == 9 ? d : d * d;
                for (int k = 0; k < p.x.rankOf(node); k++) {
                    int one = node == 8 && k == 0 || node == 9 && k == 1 ? 1 : d;
                    CHECK.due("D " + d + ": valueDim(" + node + ", " + k + ")",
                            p.x.valueDim(node, k), one);
                }
                CHECK.due("D " + d + ": the last element of " + node + " is not 0",
                        p.x.valueAt(node, count - 1) != 0, true);
                for (int i = count; i <= 40; i++) {
                    CHECK.due("D " + d + ": valueAt(" + node + ", " + i + ")",
                            p.x.valueAt(node, i), 0);
                }
            }
        }
    }

    /** The largest value as the last of 16 nodes, by each kind that can give it. */
    private static void largestLastNode() {
        CHECK.sentence("so a value has at most 36 elements (of the last node)");
        for (int kind = 1; kind <= 6; kind++) {
            Program p = new Program(6);
            for (int node = 0; node < 15; node++) {
                p.input(6, 6);
            }
            int y = kind == 1 || kind == 6 ? 6 : 14;
            CHECK.due("the 16th node", p.x.addNode(kind, kind == 1 ? 6 : 14, y, 6), 15);
            CHECK.due("run()", p.x.run(), true);
            CHECK.shape(p.x, 15, 6, 6);
            int product = 0;
            for (int t = 1; t <= 6; t++) {
                product += (30 + t) * 6 * t;
            }
            int[] last = {36, 72, 36 * 36, product, 36, 36};
            CHECK.due("kind " + kind + ": valueAt(15, 35)", p.x.valueAt(15, 35), last[kind - 1]);
            CHECK.due("kind " + kind + ": valueAt(15, 36)", p.x.valueAt(15, 36), 0);
            CHECK.due("kind " + kind + ": valueAt(14, 35)", p.x.valueAt(14, 35), 36);
        }
    }

    /** Where a code can stand: as either member of the spec of an input or of a reshape. */
    private static void code(int d, int c, boolean good) {
        String made = "D " + d + ": ";
        CHECK.due(made + "input (" + c + ", 0)",
                new ShapeInference(d).addNode(1, c, 0, 0), good ? 0 : -1);
        CHECK.due(made + "input (" + c + ", 1)",
                new ShapeInference(d).addNode(1, c, 1, 0), good ? 0 : -1);
        CHECK.due(made + "input (1, " + c + ")",
                new ShapeInference(d).addNode(1, 1, c, 0), good ? 0 : -1);
        CHECK.due(made + "reshape (" + c + ", 0)",
                new Program(d).input(2, 2).x.addNode(6, 0, c, 0), good ? 1 : -1);
        CHECK.due(made + "reshape (" + c + ", 1)",
                new Program(d).input(2, 2).x.addNode(6, 0, c, 1), good ? 1 : -1);
        CHECK.due(made + "reshape (1, " + c + ")",
                new Program(d).input(2, 2).x.addNode(6, 0, 1, c), good ? 1 : -1);
    }

    private static void constantCodes() {
        CHECK.sentence("A code c is valid iff either 1 <= c <= D, in which case it stands for the"
                + " constant c,");
        for (int d = 2; d <= 6; d++) {
            for (int c = 1; c <= 9; c++) {
                code(d, c, c <= d);
            }
            int[] large = {36, 256 + 1, (1 << 16) + 1, MAX - 1, MAX};
            for (int c : large) {
                code(d, c, false);
            }
            for (int c = 1; c <= d; c++) {
                Program p = new Program(d).input(c, 0).input(1, c).input(c, 1)
                        .reshape(0, c, 0).reshape(0, 1, c).reshape(0, c, 1);
                CHECK.dims(p.x, 0, c);
                CHECK.dims(p.x, 1, 1, c);
                CHECK.dims(p.x, 2, c, 1);
                CHECK.dims(p.x, 3, c);
                CHECK.dims(p.x, 4, 1, c);
                CHECK.dims(p.x, 5, c, 1);
            }
        }
    }

    private static void symbolCodes() {
        CHECK.sentence("or c is -1, -2 or -3, in which case it stands for symbol -c-1.");
        for (int d = 2; d <= 6; d++) {
            for (int c = -9; c <= -1; c++) {
                code(d, c, c >= -3);
            }
            int[] small = {-36, -256 - 1, -(1 << 16) - 1, MIN + 2, MIN + 1, MIN};
            for (int c : small) {
                code(d, c, false);
            }
            for (int c = -3; c <= -1; c++) {
                Program p = new Program(d).input(c, 0).input(1, c).input(c, 1)
                        .reshape(0, c, 0).reshape(0, 1, c).reshape(0, c, 1);
                for (int s = 0; s < 3; s++) {
                    p.x.bind(s, s == -c - 1 ? 2 : 1);
                }
                CHECK.dims(p.x, 0, c);
                CHECK.dims(p.x, 1, 1, c);
                CHECK.dims(p.x, 5, c, 1);
                CHECK.due("run()", p.x.run(), true);
                CHECK.shape(p.x, 0, 2);
                CHECK.shape(p.x, 1, 1, 2);
                CHECK.shape(p.x, 2, 2, 1);
                CHECK.shape(p.x, 3, 2);
                CHECK.shape(p.x, 4, 1, 2);
                CHECK.shape(p.x, 5, 2, 1);
            }
        }
    }

    private static void specOfRankZero() {
        CHECK.sentence("p == 0 and q == 0 gives rank 0.");
        Program p = new Program(2).input(0, 0).input(1, 1).reshape(1, 0, 0);
        CHECK.due("rankOf(0)", p.x.rankOf(0), 0);
        CHECK.due("rankOf(2)", p.x.rankOf(2), 0);
        CHECK.dims(p.x, 0);
        CHECK.dims(p.x, 2);
    }

    private static void specOfRankOne() {
        CHECK.sentence("p != 0 and q == 0 gives rank 1 with dims (p).");
        for (int c = -3; c <= 2; c++) {
            if (c != 0) {
                Program p = new Program(2).input(c, 0).reshape(0, c, 0);
                CHECK.due("rankOf(0)", p.x.rankOf(0), 1);
                CHECK.due("rankOf(1)", p.x.rankOf(1), 1);
                CHECK.dims(p.x, 0, c);
                CHECK.dims(p.x, 1, c);
            }
        }
    }

    private static void specOfRankTwo() {
        CHECK.sentence("p != 0 and q != 0 gives rank 2 with dims (p, q): p rows and q columns.");
        for (int c = -3; c <= 4; c++) {
            for (int e = -3; e <= 4; e++) {
                if (c != 0 && e != 0) {
                    Program p = new Program(4).input(c, e).reshape(0, c, e).sum(0, 0).sum(0, 1);
                    CHECK.due("rankOf(0)", p.x.rankOf(0), 2);
                    CHECK.due("rankOf(1)", p.x.rankOf(1), 2);
                    CHECK.dims(p.x, 0, c, e);
                    CHECK.dims(p.x, 1, c, e);
                    CHECK.dims(p.x, 2, e);
                    CHECK.dims(p.x, 3, c);
                }
            }
        }
    }

    private static void specWithoutAFirst() {
        CHECK.sentence("p == 0 and q != 0 is invalid.");
        int[] second = {MIN, -4, -3, -2, -1, 1, 2, 6, 7, MAX};
        for (int q : second) {
            CHECK.due("input (0, " + q + ")", new ShapeInference(6).addNode(1, 0, q, 0), -1);
            CHECK.due("reshape (0, " + q + ")",
                    new Program(6).input(1, 1).x.addNode(6, 0, 0, q), -1);
        }
    }

    private static void nonzeroMembers() {
        CHECK.sentence("Each nonzero member must be a valid code.");
        int[] codes = {MIN, -5, -4, -3, -2, -1, 1, 2, 3, 4, 5, 6, 7, MAX};
        for (int p : codes) {
            for (int q : codes) {
                boolean good = p >= -3 && p <= 4 && q >= -3 && q <= 4;
                CHECK.due("input (" + p + ", " + q + ")",
                        new ShapeInference(4).addNode(1, p, q, 0), good ? 0 : -1);
                CHECK.due("reshape (" + p + ", " + q + ")",
                        new Program(4).input(4, 4).x.addNode(6, 0, p, q), good ? 1 : -1);
            }
        }
    }

    private static void rowMajor() {
        CHECK.sentence("Rank 2 (r, c): element (i, j) has flat index i*c+j (row-major).");
        for (int r = 1; r <= 6; r++) {
            for (int c = 1; c <= 6; c++) {
                // a column of 1000 * i and a row of j add up to a number that tells the place
                Program p = new Program(6).input(r, 1).input(1, c).add(0, 1)
                        .data(0, 0, 1000, 2000, 3000, 4000, 5000).data(1, 1, 2, 3, 4, 5, 6);
                CHECK.due("run()", p.x.run(), true);
                for (int i = 0; i < r; i++) {
                    for (int j = 0; j < c; j++) {
                        CHECK.due("element (" + i + ", " + j + ") of (" + r + ", " + c + ")",
                                p.x.valueAt(2, i * c + j), 1000 * i + j + 1);
                    }
                }
                CHECK.due("behind the last", p.x.valueAt(2, r * c), 0);
            }
        }
    }

    private static void rankOneLayout() {
        CHECK.sentence("Rank 1 (n): element i has index i.");
        for (int n = 1; n <= 6; n++) {
            Program p = new Program(6).input(n, 0).data(0, 9, 8, 7, 6, 5, 4).run();
            for (int i = 0; i <= 36; i++) {
                CHECK.due("valueAt(0, " + i + ")", p.x.valueAt(0, i), i < n ? 9 - i : 0);
            }
        }
    }

    private static void rankZeroLayout() {
        CHECK.sentence("Rank 0: one element, index 0.");
        Program p = new Program(6).input(0, 0).data(0, 9, 8, 7).run();
        for (int i = -2; i <= 36; i++) {
            CHECK.due("valueAt(0, " + i + ")", p.x.valueAt(0, i), i == 0 ? 9 : 0);
        }
    }

    private static void elementCount() {
        CHECK.sentence("The element count is the product of the dims, and 1 for rank 0.");
        Program p = new Program(6).input(-1, -2).input(-2, 0).input(0, 0);
        // from the largest to the smallest, so that an index too many would show an old element
        for (int r = 6; r >= 1; r--) {
            for (int c = 6; c >= 1; c--) {
                p.bind(r, c, 1).run();
                for (int i = -1; i <= 37; i++) {
                    CHECK.due("(" + r + ", " + c + "): valueAt(0, " + i + ")",
                            p.x.valueAt(0, i), i < r * c ? i + 1 : 0);
                    CHECK.due("(" + c + "): valueAt(1, " + i + ")",
                            p.x.valueAt(1, i), i < c ? i + 1 : 0);
                    CHECK.due("rank 0: valueAt(2, " + i + ")",
                            p.x.valueAt(2, i), i < 1 ? i + 1 : 0);
                }
            }
        }
    }

    private static void numberOfInstantiations() {
        CHECK.sentence("An instantiation gives each of the three symbols a value in 1..D, so there"
                + " are D*D*D instantiations in all.");
        for (int d = 2; d <= 6; d++) {
            ShapeInference x = new Program(d).input(-1, -2).input(-3, 0).x;
            int found = 0;
            for (int a = -2; a <= 9; a++) {
                for (int b = -2; b <= 9; b++) {
                    for (int c = -2; c <= 9; c++) {
                        found += x.admissible(a, b, c) ? 1 : 0;
                    }
                }
            }
            CHECK.due("instantiations with D " + d, found, d * d * d);
        }
    }

    private static void inOrder() {
        CHECK.sentence("The rules are applied to nodes 0, 1, ... in order, and a code stands for its"
                + " constant or for its symbol's value.");
        for (int a = 1; a <= 3; a++) {
            for (int b = 1; b <= 3; b++) {
                for (int c = 1; c <= 3; c++) {
                    // node i + 3 fits iff symbol i is 2; no other node may be named first
                    Program p = new Program(3).input(-1, 0).input(-2, 0).input(-3, 0)
                            .reshape(0, 2, 0).reshape(1, 2, 0).reshape(2, 2, 0).bind(a, b, c);
                    int trap = a != 2 ? 3 : b != 2 ? 4 : c != 2 ? 5 : -1;
                    CHECK.due("run()", p.x.run(), trap == -1);
                    CHECK.due("trapNode()", p.x.trapNode(), trap);
                }
            }
        }
    }

    private static void admissibleIffNoNodeTraps() {
        CHECK.sentence("An instantiation is **admissible** for the current program iff no node"
                + " traps.");
        // the trap is at node 1, in the middle, or at the last node of a full program
        int[] places = {1, 8, 15};
        for (int place : places) {
            Program p = new Program(3).input(-1, 0);
            for (int node = 1; node < 16; node++) {
                p = node == place ? p.reshape(0, 2, 0) : p.transpose(0);
            }
            for (int a = 1; a <= 3; a++) {
                CHECK.due("trap at " + place + ": admissible(" + a + ", 1, 1)",
                        p.x.admissible(a, 1, 1), a == 2);
            }
        }
    }

    private static void noNodes() {
        CHECK.sentence("With no nodes, every instantiation is admissible.");
        for (int d = 2; d <= 6; d++) {
            ShapeInference x = new ShapeInference(d);
            for (int a = 1; a <= d; a++) {
                for (int b = 1; b <= d; b++) {
                    for (int c = 1; c <= d; c++) {
                        CHECK.due("D " + d + ": admissible(" + a + ", " + b + ", " + c + ")",
                                x.admissible(a, b, c), true);
                    }
                }
            }
        }
    }

    public static void main(String[] args) {
        belowTwo();
        aboveSix();
        clamped();
        everyInt();
        threeSymbols();
        sixteenNodes();
        atMost36Elements();
        largestLastNode();
        constantCodes();
        symbolCodes();
        specOfRankZero();
        specOfRankOne();
        specOfRankTwo();
        specWithoutAFirst();
        nonzeroMembers();
        rowMajor();
        rankOneLayout();
        rankZeroLayout();
        elementCount();
        numberOfInstantiations();
        inOrder();
        admissibleIffNoNodeTraps();
        noNodes();
        CHECK.end();
    }
}
