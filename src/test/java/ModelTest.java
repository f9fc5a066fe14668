import java.util.List;

/**
 * Long runs of mixed calls against the model, every answer looked at after every few calls. The
 * runs come from a fixed seed, so they are the same each time.
 */
public final class ModelTest {
    private static final Check CHECK = new Check("ModelTest");
    private static final int RUNS = 1500;
    private static final int CALLS = 60;
    private static long seed = 20261115L;

    /** A whole number in low..high. */
    private static int pick(int low, int high) {
        seed = seed * 6364136223846793005L + 1442695040888963407L;
        return low + (int) ((seed >>> 33) % (high - low + 1));
    }

    private static final int[] EXTREMES = {Integer.MIN_VALUE, Integer.MAX_VALUE, -5, 17, 36, 100};

    private static int mostly(int low, int high) {
        return pick(0, 39) == 0 ? EXTREMES[pick(0, EXTREMES.length - 1)] : pick(low, high);
    }

    private static int code(int d) {
        int which = pick(0, 9);
        if (which < 5) {
            return -pick(1, 3);
        }
        return which < 7 ? pick(1, 2) : mostly(1, d);
    }

    /** A second code is left out often, so that all ranks come up. */
    private static int secondCode(int d) {
        return pick(0, 2) == 0 ? 0 : code(d);
    }

    private static void addNode(ShapeInference x, Model m) {
        int count = m.count();
        int kind = count == 0 ? 1 : mostly(1, 7);
        int a = kind == 1 ? code(m.d) : mostly(0, count - 1);
        int b = kind == 1 ? secondCode(m.d) : kind == 6 ? code(m.d)
                : kind == 7 ? mostly(0, 1) : mostly(0, Math.max(0, count - 1));
        int c = kind == 6 ? secondCode(m.d) : mostly(-3, 6);
        if ((kind == 1 || kind == 6) && pick(0, 9) == 0) {
            a = kind == 1 ? 0 : a;
            b = 0;
            c = kind == 6 ? pick(0, 1) : c;
        }
        CHECK.due("addNode(" + kind + ", " + a + ", " + b + ", " + c + ")",
                x.addNode(kind, a, b, c), m.addNode(kind, a, b, c));
    }

    private static void change(ShapeInference x, Model m) {
        int which = pick(0, 9);
        if (which < 3) {
            addNode(x, m);
        } else if (which < 6) {
            int s = mostly(0, 2);
            int v = mostly(1, m.d);
            CHECK.due("bind(" + s + ", " + v + ")", x.bind(s, v), m.bind(s, v));
        } else if (which < 7) {
            int node = mostly(0, Math.max(0, m.count() - 1));
            int idx = pick(0, 1) == 0 ? pick(0, 3) : mostly(-1, 36);
            int value = pick(0, 1) == 0 ? pick(-9, 9) : pick(0, Integer.MAX_VALUE - 1) * 2 + 1;
            CHECK.due("setData(" + node + ", " + idx + ", " + value + ")",
                    x.setData(node, idx, value), m.setData(node, idx, value));
        } else {
            boolean would = x.admissible(x.boundValue(0), x.boundValue(1), x.boundValue(2));
            boolean ran = x.run();
            CHECK.due("run()", ran, m.run());
            CHECK.due("run() against admissible", ran, would);
        }
    }

    private static void runState(ShapeInference x, Model m) {
        CHECK.due("runState()", x.runState(), m.runState());
        CHECK.due("trapNode()", x.trapNode(), m.trapNode());
        List<int[]> shapes = m.readableShapes();
        List<int[]> values = m.readableValues();
        for (int node = -1; node <= 16; node++) {
            boolean there = node >= 0 && node < shapes.size();
            int rank = there ? shapes.get(node).length : 0;
            for (int k = -1; k <= 2; k++) {
                CHECK.due("valueDim(" + node + ", " + k + ")", x.valueDim(node, k),
                        k >= 0 && k < rank ? shapes.get(node)[k] : 0);
            }
            int length = there ? values.get(node).length : 0;
            for (int i = -1; i <= 36; i++) {
                CHECK.due("valueAt(" + node + ", " + i + ")", x.valueAt(node, i),
                        i >= 0 && i < length ? values.get(node)[i] : 0);
            }
        }
    }

    private static void inference(ShapeInference x, Model m) {
        List<int[]> all = m.admissibleOnes();
        CHECK.due("accepted()", x.accepted(), !all.isEmpty());
        for (int s = -1; s <= 3; s++) {
            CHECK.due("symbolValue(" + s + ")", x.symbolValue(s), m.symbolValue(all, s));
            CHECK.due("boundValue(" + s + ")", x.boundValue(s), m.boundValue(s));
            for (int t = -1; t <= 3; t++) {
                CHECK.due("symbolsEqual(" + s + ", " + t + ")",
                        x.symbolsEqual(s, t), m.symbolsEqual(all, s, t));
            }
        }
        for (int node = -1; node <= 16; node++) {
            CHECK.due("rankOf(" + node + ")", x.rankOf(node), m.rankOf(node));
            for (int k = -1; k <= 2; k++) {
                CHECK.due("dimOf(" + node + ", " + k + ")", x.dimOf(node, k), m.dimOf(all, node, k));
            }
        }
        for (int a = 0; a <= m.d + 1; a++) {
            for (int b = 0; b <= m.d + 1; b++) {
                for (int c = 0; c <= m.d + 1; c++) {
                    CHECK.due("admissible(" + a + ", " + b + ", " + c + ")",
                            x.admissible(a, b, c), m.admissible(a, b, c));
                }
            }
        }
    }

    /** What promise 9 says of the inferred dims and the computed ones right after a run. */
    private static void inferredAndComputed(ShapeInference x) {
        int last = x.runState() == 1 ? 16 : x.trapNode();
        for (int node = 0; node < last; node++) {
            for (int k = 0; k < x.rankOf(node); k++) {
                int dim = x.dimOf(node, k);
                int got = x.valueDim(node, k);
                CHECK.due("valueDim at least 1", got >= 1, true);
                if (x.runState() == 1 && dim >= 1) {
                    CHECK.due("valueDim of a fixed dim", got, dim);
                } else if (x.runState() == 1 && dim != -4) {
                    CHECK.due("valueDim of a symbol", got, x.boundValue(-dim - 1));
                }
            }
        }
    }

    public static void main(String[] args) {
        int[] ran = new int[3];
        for (int run = 0; run < RUNS; run++) {
            int maxDim = pick(0, 8);
            ShapeInference x = new ShapeInference(maxDim);
            Model m = new Model(maxDim);
            int length = pick(1, CALLS);
            for (int call = 0; call < length; call++) {
                change(x, m);
                runState(x, m);
                inferredAndComputed(x);
            }
            inference(x, m);
            runState(x, m);
            ran[x.runState()]++;
        }
        for (int state = 0; state < 3; state++) {
            CHECK.due("run state " + state + " comes up often", ran[state] > RUNS / 20, true);
        }
        CHECK.end();
    }
}
