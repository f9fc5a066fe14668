/** Promise 4: admissibility. */
public final class Promise04Test {
    private static final Check CHECK = new Check("Promise04Test");

    interface Fits {
        boolean test(int a, int b, int c);
    }

    private static void all(String what, ShapeInference x, int d, Fits fits) {
        boolean any = false;
        for (int a = -1; a <= 8; a++) {
            for (int b = -1; b <= 8; b++) {
                for (int c = -1; c <= 8; c++) {
                    boolean inside = a >= 1 && a <= d && b >= 1 && b <= d && c >= 1 && c <= d;
                    boolean want = inside && fits.test(a, b, c);
                    any = any || want;
                    CHECK.due(what + ": admissible(" + a + ", " + b + ", " + c + ")",
                            x.admissible(a, b, c), want);
                }
            }
        }
        CHECK.due(what + ": accepted", x.accepted(), any);
    }

    private static boolean broadcasts(int u, int v) {
        return u == v || u == 1 || v == 1;
    }

    private static void noNodes() {
        for (int d = 2; d <= 6; d++) {
            all("no nodes", new ShapeInference(d), d, (a, b, c) -> true);
        }
        int[] far = {Integer.MIN_VALUE, Integer.MAX_VALUE};
        for (int v : far) {
            ShapeInference x = new ShapeInference(6);
            CHECK.due("admissible far a", x.admissible(v, 1, 1), false);
            CHECK.due("admissible far b", x.admissible(1, v, 1), false);
            CHECK.due("admissible far c", x.admissible(1, 1, v), false);
        }
    }

    private static void neverTraps() {
        ShapeInference x = new ShapeInference(4);
        x.addNode(1, -1, -2, 0);
        x.addNode(1, -3, 0, 0);
        x.addNode(1, 0, 0, 0);
        x.addNode(5, 0, 0, 0);
        x.addNode(5, 1, 0, 0);
        x.addNode(7, 0, 0, 0);
        x.addNode(7, 0, 1, 0);
        x.addNode(7, 1, 0, 0);
        x.addNode(2, 0, 2, 0);
        x.addNode(3, 2, 1, 0);
        all("never traps", x, 4, (a, b, c) -> true);
    }

    private static void broadcasting() {
        for (int kind = 2; kind <= 3; kind++) {
            ShapeInference x = new ShapeInference(5);
            x.addNode(1, -1, -2, 0);
            x.addNode(1, -3, 0, 0);
            x.addNode(kind, 1, 0, 0);
            all("rank 1 to rank 2", x, 5, (a, b, c) -> broadcasts(b, c));
            ShapeInference y = new ShapeInference(5);
            y.addNode(1, -1, -2, 0);
            y.addNode(1, -3, 2, 0);
            y.addNode(kind, 0, 1, 0);
            all("rank 2 to rank 2", y, 5, (a, b, c) -> broadcasts(a, c) && broadcasts(b, 2));
            ShapeInference z = new ShapeInference(5);
            z.addNode(1, -2, 0, 0);
            z.addNode(1, -3, 0, 0);
            z.addNode(kind, 0, 1, 0);
            all("rank 1 to rank 1", z, 5, (a, b, c) -> broadcasts(b, c));
        }
    }

    private static void products() {
        ShapeInference x = new ShapeInference(4);
        x.addNode(1, -1, -2, 0);
        x.addNode(1, -3, -1, 0);
        x.addNode(4, 0, 1, 0);
        // no broadcasting here: a 1 against a 3 traps
        all("matmul", x, 4, (a, b, c) -> b == c);
        x.addNode(5, 0, 0, 0);
        x.addNode(4, 3, 3, 0);
        all("matmul of a transpose", x, 4, (a, b, c) -> b == c && a == b);
    }

    private static void reshapes() {
        ShapeInference x = new ShapeInference(6);
        x.addNode(1, -1, -2, 0);
        x.addNode(6, 0, -3, 0);
        all("reshape to rank 1", x, 6, (a, b, c) -> a * b == c);
        x.addNode(6, 0, 2, 3);
        all("and to rank 2", x, 6, (a, b, c) -> a * b == c && c == 6);
        ShapeInference y = new ShapeInference(6);
        y.addNode(1, -1, -2, 0);
        y.addNode(6, 0, 0, 0);
        all("reshape to rank 0", y, 6, (a, b, c) -> a == 1 && b == 1);
        ShapeInference z = new ShapeInference(6);
        z.addNode(1, 0, 0, 0);
        z.addNode(6, 0, -2, -3);
        all("reshape of rank 0", z, 6, (a, b, c) -> b == 1 && c == 1);
        ShapeInference w = new ShapeInference(6);
        w.addNode(1, 6, 6, 0);
        w.addNode(6, 0, -1, -2);
        all("reshape of 36", w, 6, (a, b, c) -> a == 6 && b == 6);
    }

    private static void derivedShapes() {
        ShapeInference x = new ShapeInference(5);
        x.addNode(1, -1, -2, 0);
        x.addNode(7, 0, 0, 0);
        x.addNode(6, 1, -3, 0);
        all("sum of rows", x, 5, (a, b, c) -> b == c);
        ShapeInference y = new ShapeInference(5);
        y.addNode(1, -1, -2, 0);
        y.addNode(7, 0, 1, 0);
        y.addNode(6, 1, -3, 0);
        all("sum of columns", y, 5, (a, b, c) -> a == c);
        ShapeInference z = new ShapeInference(5);
        z.addNode(1, -1, 0, 0);
        z.addNode(7, 0, 0, 0);
        z.addNode(6, 1, -3, 0);
        all("sum of all", z, 5, (a, b, c) -> c == 1);
        ShapeInference t = new ShapeInference(5);
        t.addNode(1, -1, 0, 0);
        t.addNode(5, 0, 0, 0);
        t.addNode(6, 1, -3, 0);
        all("transpose of rank 1", t, 5, (a, b, c) -> a == c);
    }

    private static void nothingFits() {
        ShapeInference x = new ShapeInference(3);
        x.addNode(1, 2, 0, 0);
        x.addNode(1, 3, 0, 0);
        x.addNode(2, 0, 1, 0);
        all("2 against 3", x, 3, (a, b, c) -> false);
        // nothing that comes later makes it fit again
        x.addNode(1, -1, 0, 0);
        x.addNode(2, 2, 2, 0);
        all("2 against 3, later", x, 3, (a, b, c) -> false);
        ShapeInference y = new ShapeInference(6);
        y.addNode(1, 6, 6, 0);
        y.addNode(6, 0, -1, 0);
        all("36 in one dim", y, 6, (a, b, c) -> false);
    }

    private static void onlyOnes() {
        for (int d = 2; d <= 6; d++) {
            ShapeInference x = new ShapeInference(d);
            x.addNode(1, -1, -2, 0);
            x.addNode(6, 0, 0, 0);
            x.addNode(1, -3, 0, 0);
            x.addNode(6, 2, 1, 1);
            all("ones alone", x, d, (a, b, c) -> a == 1 && b == 1 && c == 1);
        }
    }

    private static void onlyTheLargest() {
        for (int d = 2; d <= 6; d++) {
            ShapeInference x = new ShapeInference(d);
            x.addNode(1, d, d, 0);
            x.addNode(6, 0, -1, -2);
            x.addNode(6, 1, -2, -3);
            int largest = d;
            all("the largest alone", x, d,
                    (a, b, c) -> a == largest && b == largest && c == largest);
        }
    }

    private static void noInfluence() {
        ShapeInference x = new ShapeInference(3);
        x.addNode(1, -1, 0, 0);
        x.addNode(1, -2, 0, 0);
        x.addNode(2, 0, 1, 0);
        x.bind(0, 2);
        x.bind(1, 3);
        x.setData(0, 0, 77);
        all("bound", x, 3, (a, b, c) -> broadcasts(a, b));
        CHECK.due("run", x.run(), false);
        all("trapped", x, 3, (a, b, c) -> broadcasts(a, b));
        CHECK.due("state kept", x.runState(), 2);
        CHECK.due("trap node kept", x.trapNode(), 2);
        CHECK.shape(x, 0, 2);
        CHECK.elements(x, 0, 77, 2);
        CHECK.due("binding kept", x.boundValue(1), 3);
    }

    public static void main(String[] args) {
        noNodes();
        neverTraps();
        broadcasting();
        products();
        reshapes();
        derivedShapes();
        nothingFits();
        onlyOnes();
        onlyTheLargest();
        noInfluence();
        CHECK.end();
    }
}
