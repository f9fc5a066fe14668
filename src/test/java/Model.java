import java.util.ArrayList;
import java.util.Arrays;
import java.util.List;

/**
 * The document read once more, in another way than the class: shapes are plain lists of dims,
 * nothing is kept between calls, and an element is worked out from its coordinates when asked.
 */
final class Model {
    private record Node(int kind, int x, int y, int z, int[] data) { }

    final int d;
    private final List<Node> nodes = new ArrayList<>();
    private final int[] bindings = {1, 1, 1};
    private int state = 0;

    Model(int maxDim) {
        d = Math.min(6, Math.max(2, maxDim));
    }

    int count() {
        return nodes.size();
    }

    // ---- shapes: null is a trap ----

    private static int size(int code, int[] symbols) {
        return code > 0 ? code : symbols[-code - 1];
    }

    private static int[] specShape(int p, int q, int[] symbols) {
        if (p == 0) {
            return new int[0];
        }
        return q == 0 ? new int[] {size(p, symbols)}
                : new int[] {size(p, symbols), size(q, symbols)};
    }

    private static int product(int[] shape) {
        return Arrays.stream(shape).reduce(1, (a, b) -> a * b);
    }

    private static int fromRight(int[] shape, int place) {
        return place < shape.length ? shape[shape.length - 1 - place] : 1;
    }

    private static int[] broadcast(int[] a, int[] b) {
        int[] result = new int[Math.max(a.length, b.length)];
        for (int place = 0; place < result.length; place++) {
            int u = fromRight(a, place);
            int v = fromRight(b, place);
            if (u != v && u != 1 && v != 1) {
                return null;
            }
            result[result.length - 1 - place] = Math.max(u, v);
        }
        return result;
    }

    private static int[] without(int[] shape, int axis) {
        int[] result = new int[shape.length - 1];
        for (int k = 0, to = 0; k < shape.length; k++) {
            if (k != axis) {
                result[to++] = shape[k];
            }
        }
        return result;
    }

    private static int[] shapeOf(Node n, List<int[]> before, int[] symbols) {
        switch (n.kind()) {
            case 1: return specShape(n.x(), n.y(), symbols);
            case 2:
            case 3: return broadcast(before.get(n.x()), before.get(n.y()));
            case 4: {
                int[] a = before.get(n.x());
                int[] b = before.get(n.y());
                return a[1] == b[0] ? new int[] {a[0], b[1]} : null;
            }
            case 5: {
                int[] a = before.get(n.x());
                return a.length == 2 ? new int[] {a[1], a[0]} : a;
            }
            case 6: {
                int[] to = specShape(n.y(), n.z(), symbols);
                return product(to) == product(before.get(n.x())) ? to : null;
            }
            default: return without(before.get(n.x()), n.y());
        }
    }

    /** The shapes of the nodes before the first trap. */
    private List<int[]> shapes(int... symbols) {
        List<int[]> done = new ArrayList<>();
        for (Node n : nodes) {
            int[] shape = shapeOf(n, done, symbols);
            if (shape == null) {
                return done;
            }
            done.add(shape);
        }
        return done;
    }

    // ---- elements by coordinates ----

    private static int flat(int[] shape, int[] at) {
        int index = 0;
        for (int k = 0; k < shape.length; k++) {
            index = index * shape[k] + at[k];
        }
        return index;
    }

    private static int[] coordinates(int[] shape, int index) {
        int[] at = new int[shape.length];
        for (int k = shape.length - 1; k >= 0; k--) {
            at[k] = index % shape[k];
            index /= shape[k];
        }
        return at;
    }

    private static int spread(int[] value, int[] shape, int[] at) {
        int[] own = new int[shape.length];
        for (int k = 0; k < shape.length; k++) {
            own[k] = shape[k] == 1 ? 0 : at[at.length - shape.length + k];
        }
        return value[flat(shape, own)];
    }

    private List<int[]> values(List<int[]> shapes) {
        List<int[]> done = new ArrayList<>();
        for (int i = 0; i < shapes.size(); i++) {
            int[] value = new int[product(shapes.get(i))];
            for (int e = 0; e < value.length; e++) {
                value[e] = element(nodes.get(i), shapes, done, coordinates(shapes.get(i), e), e);
            }
            done.add(value);
        }
        return done;
    }

    private static int element(Node n, List<int[]> shapes, List<int[]> done, int[] at, int e) {
        if (n.kind() == 1) {
            return n.data()[e];
        }
        int[] a = done.get(n.x());
        int[] shapeA = shapes.get(n.x());
        switch (n.kind()) {
            case 2: return spread(a, shapeA, at) + spread(done.get(n.y()), shapes.get(n.y()), at);
            case 3: return spread(a, shapeA, at) * spread(done.get(n.y()), shapes.get(n.y()), at);
            case 4: {
                long sum = 0;
                for (int t = 0; t < shapeA[1]; t++) {
                    int right = done.get(n.y())[flat(shapes.get(n.y()), new int[] {t, at[1]})];
                    sum += (int) ((long) a[flat(shapeA, new int[] {at[0], t})] * right);
                }
                return (int) sum;
            }
            case 5: return at.length == 2 ? a[flat(shapeA, new int[] {at[1], at[0]})] : a[e];
            case 6: return a[e];
            default: {
                long sum = 0;
                for (int i = 0; i < a.length; i++) {
                    if (Arrays.equals(without(coordinates(shapeA, i), n.y()), at)) {
                        sum += a[i];
                    }
                }
                return (int) sum;
            }
        }
    }

    // ---- the calls ----

    private boolean validCode(int c) {
        return c >= 1 && c <= d || c >= -3 && c <= -1;
    }

    private boolean validSpec(int p, int q) {
        if (p == 0 || q == 0) {
            return q == 0 && (p == 0 || validCode(p));
        }
        return validCode(p) && validCode(q);
    }

    int addNode(int kind, int x, int y, int z) {
        int count = nodes.size();
        if (count == 16 || kind < 1 || kind > 7) {
            return -1;
        }
        if (kind != 1 && (x < 0 || x >= count)) {
            return -1;
        }
        if (kind >= 2 && kind <= 4 && (y < 0 || y >= count)) {
            return -1;
        }
        if (kind == 1 && !validSpec(x, y) || kind == 6 && !validSpec(y, z)) {
            return -1;
        }
        if (kind == 4 && (rankOf(x) != 2 || rankOf(y) != 2)) {
            return -1;
        }
        if (kind == 7 && (y < 0 || y >= rankOf(x))) {
            return -1;
        }
        int[] data = new int[36];
        for (int i = 0; i < 36; i++) {
            data[i] = i + 1;
        }
        nodes.add(new Node(kind, x, y, z, data));
        state = 0;
        return count;
    }

    int rankOf(int node) {
        if (node < 0 || node >= nodes.size()) {
            return -1;
        }
        Node n = nodes.get(node);
        switch (n.kind()) {
            case 1: return (n.x() != 0 ? 1 : 0) + (n.y() != 0 ? 1 : 0);
            case 2:
            case 3: return Math.max(rankOf(n.x()), rankOf(n.y()));
            case 4: return 2;
            case 5: return rankOf(n.x());
            case 6: return (n.y() != 0 ? 1 : 0) + (n.z() != 0 ? 1 : 0);
            default: return rankOf(n.x()) - 1;
        }
    }

    boolean admissible(int a, int b, int c) {
        return Math.min(a, Math.min(b, c)) >= 1 && Math.max(a, Math.max(b, c)) <= d
                && shapes(a, b, c).size() == nodes.size();
    }

    List<int[]> admissibleOnes() {
        List<int[]> found = new ArrayList<>();
        for (int a = 1; a <= d; a++) {
            for (int b = 1; b <= d; b++) {
                for (int c = 1; c <= d; c++) {
                    if (admissible(a, b, c)) {
                        found.add(new int[] {a, b, c});
                    }
                }
            }
        }
        return found;
    }

    int dimOf(List<int[]> admissible, int node, int k) {
        if (k < 0 || k >= rankOf(node) || admissible.isEmpty()) {
            return 0;
        }
        List<Integer> dims = new ArrayList<>();
        for (int[] symbols : admissible) {
            dims.add(shapes(symbols).get(node)[k]);
        }
        if (dims.stream().distinct().count() == 1) {
            return dims.get(0);
        }
        for (int s = 0; s < 3; s++) {
            boolean equal = true;
            for (int i = 0; i < dims.size(); i++) {
                equal = equal && dims.get(i) == admissible.get(i)[s];
            }
            if (equal) {
                return -(s + 1);
            }
        }
        return -4;
    }

    int symbolValue(List<int[]> admissible, int s) {
        if (s < 0 || s > 2 || admissible.stream().map(i -> i[s]).distinct().count() != 1) {
            return 0;
        }
        return admissible.get(0)[s];
    }

    boolean symbolsEqual(List<int[]> admissible, int s, int t) {
        return s >= 0 && s <= 2 && t >= 0 && t <= 2 && !admissible.isEmpty()
                && admissible.stream().allMatch(i -> i[s] == i[t]);
    }

    boolean bind(int s, int v) {
        if (s < 0 || s > 2 || v < 1 || v > d) {
            return false;
        }
        bindings[s] = v;
        state = 0;
        return true;
    }

    int boundValue(int s) {
        return s >= 0 && s <= 2 ? bindings[s] : 0;
    }

    boolean setData(int node, int idx, int value) {
        if (node < 0 || node >= nodes.size() || nodes.get(node).kind() != 1 || idx < 0 || idx > 35) {
            return false;
        }
        nodes.get(node).data()[idx] = value;
        state = 0;
        return true;
    }

    boolean run() {
        state = shapes(bindings).size() == nodes.size() ? 1 : 2;
        return state == 1;
    }

    int runState() {
        return state;
    }

    int trapNode() {
        return state == 2 ? shapes(bindings).size() : -1;
    }

    /** The shapes that can be read now: none without a run, else those before the trap. */
    List<int[]> readableShapes() {
        return state == 0 ? List.of() : shapes(bindings);
    }

    List<int[]> readableValues() {
        return values(readableShapes());
    }
}
