/** The boundary cases of the node kinds in "Terms", one method for each sentence. */
public final class BoundaryKindsTest {
    private static final Check CHECK = new Check("BoundaryKindsTest");
    private static final int MIN = Integer.MIN_VALUE;
    private static final int MAX = Integer.MAX_VALUE;
    private static final int D = 6;

    private static void runs(Program p) {
        CHECK.due("run()", p.x.run(), true);
    }

    private static void traps(Program p, int node) {
        CHECK.due("run()", p.x.run(), false);
        CHECK.due("trapNode()", p.x.trapNode(), node);
    }

    // ---- wrap-around ----

    private static void wrapsInAdd() {
        CHECK.sentence("All int arithmetic wraps as in Java. (K_ADD)");
        Program p = new Program(6).input(6, 0).input(6, 0).add(0, 1)
                .data(0, MAX, MIN, MIN, MAX, -1, 1).data(1, 1, -1, MIN, MAX, MIN, MAX);
        runs(p);
        CHECK.elements(p.x, 2, MIN, MAX, 0, -2, MAX, MIN);
    }

    private static void wrapsInMul() {
        CHECK.sentence("All int arithmetic wraps as in Java. (K_MUL)");
        Program p = new Program(6).input(6, 0).input(6, 0).mul(0, 1)
                .data(0, MAX, MIN, MIN, MAX, 65536, 1 << 30).data(1, 2, -1, MIN, MAX, 65536, 2);
        runs(p);
        CHECK.elements(p.x, 2, -2, MIN, 0, 1, 0, MIN);
    }

    private static void wrapsInMatmul() {
        CHECK.sentence("All int arithmetic wraps as in Java. (K_MATMUL)");
        Program p = new Program(2).input(2, 2).input(2, 2).matmul(0, 1)
                .data(0, MAX, 1, MIN, 65536).data(1, 1, 2, 1, 65536);
        runs(p);
        // the sum wraps in the first, products and sums in the others
        CHECK.elements(p.x, 2, MIN, 65534, MIN + 65536, 0);
    }

    private static void wrapsInSum() {
        CHECK.sentence("All int arithmetic wraps as in Java. (K_SUM)");
        Program p = new Program(3).input(2, 3).sum(0, 0).sum(0, 1).sum(2, 0)
                .data(0, MAX, MIN, MAX, 1, -1, MAX);
        runs(p);
        CHECK.elements(p.x, 1, MIN, MAX, -2);
        CHECK.elements(p.x, 2, MAX - 1, MAX);
        CHECK.elements(p.x, 3, -3);
    }

    // ---- K_INPUT ----

    private static void inputNeverTraps() {
        CHECK.sentence("K_INPUT: It never traps.");
        for (int d = 2; d <= 6; d++) {
            Program p = new Program(d).input(-1, -2).input(-3, -3).input(d, -1).input(1, -2)
                    .input(-3, 0).input(d, 0).input(0, 0).input(d, d);
            for (int a = 1; a <= d; a++) {
                for (int b = 1; b <= d; b++) {
                    for (int c = 1; c <= d; c++) {
                        CHECK.due("admissible(" + a + ", " + b + ", " + c + ")",
                                p.x.admissible(a, b, c), true);
                        runs(p.bind(a, b, c));
                    }
                }
            }
        }
    }

    private static void inputReadsItsFirstCells() {
        CHECK.sentence("Its elements are the node's data cells 0..n-1, where n is the node's element"
                + " count under the instantiation");
        Program p = new Program(6).input(-1, -2).input(-2, 0).input(0, 0).data(2, -5, -6);
        for (int i = 0; i < 36; i++) {
            p.x.setData(0, i, 500 - i);
            p.x.setData(1, i, 900 + i);
        }
        for (int a = 1; a <= 6; a++) {
            for (int b = 1; b <= 6; b++) {
                runs(p.bind(a, b, 1));
                for (int i = 0; i <= 36; i++) {
                    CHECK.due("valueAt(0, " + i + ")", p.x.valueAt(0, i), i < a * b ? 500 - i : 0);
                    CHECK.due("valueAt(1, " + i + ")", p.x.valueAt(1, i), i < b ? 900 + i : 0);
                    CHECK.due("valueAt(2, " + i + ")", p.x.valueAt(2, i), i < 1 ? -5 : 0);
                }
            }
        }
    }

    // ---- K_ADD and K_MUL ----

    private static Program elementwise(Program p, boolean add, int x, int y) {
        return add ? p.add(x, y) : p.mul(x, y);
    }

    private static int result(boolean add, int a, int b) {
        return add ? a + b : a * b;
    }

    private static void rankOfBroadcast() {
        CHECK.sentence("r = max(rank x, rank y).");
        for (int a = 0; a < 3; a++) {
            for (int b = 0; b < 3; b++) {
                Program p = new Program(2).input(0, 0).input(1, 0).input(1, 1).add(a, b).mul(a, b);
                runs(p);
                for (int node = 3; node <= 4; node++) {
                    CHECK.due("ranks " + a + " and " + b, p.x.rankOf(node), Math.max(a, b));
                    for (int k = 0; k < 3; k++) {
                        CHECK.due("ranks " + a + " and " + b + ": valueDim(" + node + ", " + k + ")",
                                p.x.valueDim(node, k), k < Math.max(a, b) ? 1 : 0);
                    }
                }
            }
        }
    }

    private static void missingPlacesCountAsOne() {
        CHECK.sentence("Each operand's dims are right-aligned to r places, and missing leading"
                + " places count as dim 1.");
        for (int r = 1; r <= D; r++) {
            for (int c = 1; c <= D; c++) {
                for (int n = 1; n <= D; n++) {
                    oneAgainstTwo(r, c, n, true);
                    oneAgainstTwo(r, c, n, false);
                }
                Program p = new Program(D).input(r, c).input(0, 0).add(0, 1).mul(1, 0);
                runs(p);
                CHECK.shape(p.x, 2, r, c);
                CHECK.shape(p.x, 3, r, c);
            }
        }
    }

    /** The one dim of the first stands against the columns, never against the rows. */
    private static void oneAgainstTwo(int r, int c, int n, boolean add) {
        boolean fits = n == c || n == 1 || c == 1;
        Program p = elementwise(new Program(D).input(r, c).input(n, 0), add, 0, 1);
        Program q = elementwise(new Program(D).input(n, 0).input(r, c), add, 0, 1);
        CHECK.due("(" + r + ", " + c + ") with (" + n + ")", p.x.accepted(), fits);
        CHECK.due("(" + n + ") with (" + r + ", " + c + ")", q.x.accepted(), fits);
        if (fits) {
            runs(p);
            runs(q);
            CHECK.shape(p.x, 2, r, Math.max(c, n));
            CHECK.shape(q.x, 2, r, Math.max(c, n));
        }
    }

    private static boolean fits(int u, int v) {
        return u == v || u == 1 || v == 1;
    }

    private static void eachPlace() {
        CHECK.sentence("If u == v the result dim is u; else if u == 1 it is v; else if v == 1 it is"
                + " u; else the node traps.");
        for (int u = 1; u <= D; u++) {
            for (int v = 1; v <= D; v++) {
                for (int kind = 0; kind < 2; kind++) {
                    boolean add = kind == 0;
                    int dim = u == 1 ? v : u;
                    // as the only place, as the columns and as the rows
                    Program only = elementwise(new Program(D).input(u, 0).input(v, 0), add, 0, 1);
                    Program columns = elementwise(new Program(D).input(3, u).input(3, v), add, 0, 1);
                    Program rows = elementwise(new Program(D).input(u, 3).input(v, 3), add, 0, 1);
                    if (fits(u, v)) {
                        runs(only);
                        runs(columns);
                        runs(rows);
                        CHECK.shape(only.x, 2, dim);
                        CHECK.shape(columns.x, 2, 3, dim);
                        CHECK.shape(rows.x, 2, dim, 3);
                    } else {
                        traps(only, 2);
                        traps(columns, 2);
                        traps(rows, 2);
                    }
                }
            }
        }
    }

    private static void coordinateZero() {
        CHECK.sentence("A result element reads each operand at the same position, using coordinate 0"
                + " at every place where that operand's dim is 1 or missing.");
        int n = 3;
        int[][] specs = {{0, 0}, {1, 0}, {n, 0}, {1, 1}, {1, n}, {n, 1}, {n, n}};
        for (int[] x : specs) {
            for (int[] y : specs) {
                for (int kind = 0; kind < 2; kind++) {
                    boolean add = kind == 0;
                    Program p = new Program(n).input(x[0], x[1]).input(y[0], y[1])
                            .data(1, 10, 20, 30, 40, 50, 60, 70, 80, 90);
                    runs(elementwise(p, add, 0, 1));
                    positions(p.x, add, x, y);
                }
            }
        }
    }

    private static int columnsOf(int[] spec) {
        return spec[1] != 0 ? spec[1] : spec[0] != 0 ? spec[0] : 1;
    }

    private static int rowsOf(int[] spec) {
        return spec[1] != 0 ? spec[0] : 1;
    }

    private static int cell(int[] spec, int i, int j) {
        int row = rowsOf(spec) == 1 ? 0 : i;
        int column = columnsOf(spec) == 1 ? 0 : j;
        return row * columnsOf(spec) + column;
    }

    private static void positions(ShapeInference p, boolean add, int[] x, int[] y) {
        int rows = Math.max(rowsOf(x), rowsOf(y));
        int columns = Math.max(columnsOf(x), columnsOf(y));
        for (int i = 0; i < rows; i++) {
            for (int j = 0; j < columns; j++) {
                int a = cell(x, i, j) + 1;
                int b = 10 * (cell(y, i, j) + 1);
                CHECK.due("specs (" + x[0] + ", " + x[1] + ") and (" + y[0] + ", " + y[1]
                        + "): element (" + i + ", " + j + ")",
                        p.valueAt(2, i * columns + j), result(add, a, b));
            }
        }
        CHECK.due("behind the last", p.valueAt(2, rows * columns), 0);
    }

    private static void results() {
        CHECK.sentence("The result is a + b for K_ADD and a * b for K_MUL.");
        // zeros, ones and signs on either side, and the same operand twice
        Program p = new Program(6).input(6, 0).input(6, 0).add(0, 1).mul(0, 1).add(1, 0).mul(1, 0)
                .add(0, 0).mul(0, 0).data(0, 0, 5, 0, -3, 1, -2).data(1, 4, 0, 0, 7, -1, -6);
        runs(p);
        CHECK.elements(p.x, 2, 4, 5, 0, 4, 0, -8);
        CHECK.elements(p.x, 3, 0, 0, 0, -21, -1, 12);
        CHECK.elements(p.x, 4, 4, 5, 0, 4, 0, -8);
        CHECK.elements(p.x, 5, 0, 0, 0, -21, -1, 12);
        CHECK.elements(p.x, 6, 0, 10, 0, -6, 2, -4);
        CHECK.elements(p.x, 7, 0, 25, 0, 9, 1, 4);
    }

    // ---- K_MATMUL ----

    private static void matmulTrapsIff() {
        CHECK.sentence("It traps iff k != k2.");
        for (int m = 1; m <= D; m += 5) {
            for (int n = 1; n <= D; n += 5) {
                for (int k = 1; k <= D; k++) {
                    for (int k2 = 1; k2 <= D; k2++) {
                        Program p = new Program(D).input(m, k).input(k2, n).matmul(0, 1);
                        if (k == k2) {
                            runs(p);
                        } else {
                            traps(p, 2);
                        }
                    }
                }
            }
        }
    }

    private static void matmulElements() {
        CHECK.sentence("Otherwise the shape is (m, n) and element (i, j) is the sum over t in 0..k-1"
                + " of x(i, t) * y(t, j).");
        for (int m = 1; m <= D; m++) {
            for (int k = 1; k <= D; k++) {
                for (int n = 1; n <= D; n++) {
                    Program p = new Program(D).input(m, k).input(k, n).matmul(0, 1);
                    runs(p);
                    CHECK.shape(p.x, 2, m, n);
                    for (int e = 0; e < m * n; e++) {
                        int want = 0;
                        for (int t = 0; t < k; t++) {
                            want += (e / n * k + t + 1) * (t * n + e % n + 1);
                        }
                        CHECK.due("(" + m + ", " + k + ") by (" + k + ", " + n + ") at " + e,
                                p.x.valueAt(2, e), want);
                    }
                    CHECK.due("behind the last", p.x.valueAt(2, m * n), 0);
                }
            }
        }
    }

    // ---- K_TRANSPOSE ----

    private static void transposeOfRankTwo() {
        CHECK.sentence("If x has rank 2 (r, c), the result is (c, r) with element (i, j) = x(j, i).");
        for (int r = 1; r <= D; r++) {
            for (int c = 1; c <= D; c++) {
                Program p = new Program(D).input(r, c).transpose(0);
                runs(p);
                CHECK.shape(p.x, 1, c, r);
                for (int i = 0; i < c; i++) {
                    for (int j = 0; j < r; j++) {
                        CHECK.due("(" + r + ", " + c + "): element (" + i + ", " + j + ")",
                                p.x.valueAt(1, i * r + j), j * c + i + 1);
                    }
                }
                CHECK.due("behind the last", p.x.valueAt(1, r * c), 0);
            }
        }
    }

    private static void transposeOfLess() {
        CHECK.sentence("If x has rank 0 or 1, the result has the same shape and elements as x.");
        Program zero = new Program(D).input(0, 0).transpose(0).data(0, 77);
        runs(zero);
        CHECK.shape(zero.x, 1);
        CHECK.elements(zero.x, 1, 77);
        CHECK.dims(zero.x, 1);
        for (int n = 1; n <= D; n++) {
            Program p = new Program(D).input(n, 0).transpose(0);
            runs(p);
            CHECK.shape(p.x, 1, n);
            for (int i = 0; i <= D; i++) {
                CHECK.due("(" + n + "): valueAt(1, " + i + ")", p.x.valueAt(1, i), i < n ? i + 1 : 0);
            }
        }
    }

    // ---- K_RESHAPE ----

    private static void reshapeTrapsIff() {
        CHECK.sentence("It traps iff the product of the spec's dims differs from the product of x's"
                + " dims.");
        int[][] specs = new int[43][];
        int count = 0;
        for (int p = 0; p <= 6; p++) {
            for (int q = 0; q <= (p == 0 ? 0 : 6); q++) {
                specs[count] = new int[] {p, q};
                count++;
            }
        }
        CHECK.due("specs of constants", count, 43);
        for (int[] from : specs) {
            for (int[] to : specs) {
                Program p = new Program(6).input(from[0], from[1]).reshape(0, to[0], to[1]);
                boolean fits = rowsOf(from) * columnsOf(from) == rowsOf(to) * columnsOf(to);
                if (fits) {
                    runs(p);
                } else {
                    traps(p, 1);
                }
            }
        }
    }

    private static void reshapeShape() {
        CHECK.sentence("K_RESHAPE: The shape is the spec.");
        Program p = new Program(6).input(6, 0).reshape(0, 1, 6).reshape(0, 6, 1).reshape(0, 2, 3)
                .reshape(0, 3, 2).reshape(0, 6, 0).input(1, 1).reshape(6, 0, 0).reshape(7, 1, 0)
                .reshape(7, 1, 1);
        runs(p);
        CHECK.shape(p.x, 1, 1, 6);
        CHECK.shape(p.x, 2, 6, 1);
        CHECK.shape(p.x, 3, 2, 3);
        CHECK.shape(p.x, 4, 3, 2);
        CHECK.shape(p.x, 5, 6);
        CHECK.shape(p.x, 7);
        CHECK.shape(p.x, 8, 1);
        CHECK.shape(p.x, 9, 1, 1);
    }

    private static void reshapeElements() {
        CHECK.sentence("Element k is element k of x.");
        Program p = new Program(6).input(6, 6).reshape(0, 6, 6).input(3, 4).transpose(2)
                .reshape(3, 2, 6).reshape(3, 6, 2).input(0, 0).reshape(6, 1, 1).reshape(7, 0, 0)
                .data(6, -8);
        runs(p);
        for (int k = 0; k < 36; k++) {
            CHECK.due("valueAt(1, " + k + ")", p.x.valueAt(1, k), k + 1);
        }
        CHECK.elements(p.x, 4, 1, 5, 9, 2, 6, 10, 3, 7, 11, 4, 8, 12);
        CHECK.elements(p.x, 5, 1, 5, 9, 2, 6, 10, 3, 7, 11, 4, 8, 12);
        CHECK.elements(p.x, 7, -8);
        CHECK.elements(p.x, 8, -8);
    }

    // ---- K_SUM ----

    private static void sumAxis() {
        CHECK.sentence("K_SUM, operand x, axis y with 0 <= y < rank x.");
        int[] axes = {MIN, -2, -1, 0, 1, 2, 3, 256, 1 << 16, MAX};
        for (int axis : axes) {
            for (int rank = 0; rank < 3; rank++) {
                Program p = new Program(2).input(0, 0).input(2, 0).input(2, 2);
                CHECK.due("sum of rank " + rank + " along " + axis, p.x.addNode(7, rank, axis, 0),
                        axis >= 0 && axis < rank ? 3 : -1);
            }
        }
    }

    private static void sumShape() {
        CHECK.sentence("The shape is x's dims without dim y, counted from the left (at rank 2, y = 0"
                + " removes the rows and y = 1 the columns).");
        for (int r = 1; r <= D; r++) {
            for (int c = 1; c <= D; c++) {
                Program p = new Program(D).input(r, c).sum(0, 0).sum(0, 1).sum(1, 0).sum(2, 0);
                runs(p);
                CHECK.shape(p.x, 1, c);
                CHECK.shape(p.x, 2, r);
                CHECK.shape(p.x, 3);
                CHECK.shape(p.x, 4);
            }
        }
    }

    private static void sumElements() {
        CHECK.sentence("Each element is the sum of the x elements whose remaining coordinates equal"
                + " its own.");
        for (int r = 1; r <= D; r++) {
            for (int c = 1; c <= D; c++) {
                Program p = new Program(D).input(r, c).sum(0, 0).sum(0, 1);
                runs(p);
                int[] ofColumns = new int[c];
                int[] ofRows = new int[r];
                for (int e = 0; e < r * c; e++) {
                    ofColumns[e % c] += e + 1;
                    ofRows[e / c] += e + 1;
                }
                CHECK.elements(p.x, 1, ofColumns);
                CHECK.elements(p.x, 2, ofRows);
            }
        }
    }

    private static void sumOfRankOne() {
        CHECK.sentence("For a rank 1 input, the result has one element: the sum.");
        for (int n = 1; n <= D; n++) {
            Program p = new Program(D).input(n, 0).sum(0, 0);
            runs(p);
            CHECK.shape(p.x, 1);
            CHECK.elements(p.x, 1, n * (n + 1) / 2);
        }
    }

    public static void main(String[] args) {
        wrapsInAdd();
        wrapsInMul();
        wrapsInMatmul();
        wrapsInSum();
        inputNeverTraps();
        inputReadsItsFirstCells();
        rankOfBroadcast();
        missingPlacesCountAsOne();
        eachPlace();
        coordinateZero();
        results();
        matmulTrapsIff();
        matmulElements();
        transposeOfRankTwo();
        transposeOfLess();
        reshapeTrapsIff();
        reshapeShape();
        reshapeElements();
        sumAxis();
        sumShape();
        sumElements();
        sumOfRankOne();
        CHECK.end();
    }
}
