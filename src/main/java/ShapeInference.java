public final class ShapeInference {
    public static final int K_INPUT = 1;
    public static final int K_ADD = 2;
    public static final int K_MUL = 3;
    public static final int K_MATMUL = 4;
    public static final int K_TRANSPOSE = 5;
    public static final int K_RESHAPE = 6;
    public static final int K_SUM = 7;
    public static final int MAX_NODES = 16;
    public static final int SYMBOLS = 3;
    public static final int DATA_CELLS = 36;
    public static final int DIM_NONE = 0;
    public static final int DIM_VARIES = -4;
    public static final int RUN_NONE = 0;
    public static final int RUN_OK = 1;
    public static final int RUN_TRAP = 2;

    private static final int LEAST_D = 2;
    private static final int GREATEST_D = 6;
    private static final int NO_TRAP = -1;

    // Every shape is held as two places, rows and columns, aligned to the right: rank 1 (n) is
    // held as (1, n) and rank 0 as (1, 1). Broadcasting, the element count and the flat index
    // i * columns + j are then the same for all ranks.
    private static final int PLACES = 2;

    // The size table has one stretch of STRIDE cells for each instantiation: the places of all
    // nodes, then the values of the symbols. The shape rules and runs both use it, so what run
    // does and what admissible says cannot differ.
    private static final int SYMBOL_PLACE = MAX_NODES * PLACES;
    private static final int STRIDE = SYMBOL_PLACE + SYMBOLS;
    private static final int MAX_INSTANTIATIONS = GREATEST_D * GREATEST_D * GREATEST_D;
    private static final int SIZE_CELLS = MAX_INSTANTIATIONS * STRIDE;
    private static final int ELEMENT_CELLS = MAX_NODES * DATA_CELLS;

    private final int maxSize;
    private final int instantiations;

    private int count = 0;
    private final int[] kinds = new int[MAX_NODES];
    private final int[] xs = new int[MAX_NODES];
    private final int[] ys = new int[MAX_NODES];
    private final int[] zs = new int[MAX_NODES];
    private final int[] ranks = new int[MAX_NODES];
    private final int[] data = new int[ELEMENT_CELLS];

    private final int[] sizes = new int[SIZE_CELLS];
    private final int[] traps = new int[MAX_INSTANTIATIONS];

    private final int[] bindings = new int[SYMBOLS];
    private int state = RUN_NONE;
    // How many nodes the last run computed; after a trap this is the trap node itself.
    private int computed = 0;
    private final int[] elements = new int[ELEMENT_CELLS];

    public ShapeInference(int maxDim) {
        maxSize = clampSize(maxDim);
        instantiations = maxSize * maxSize * maxSize;
        fillInstantiations();
        for (int s = 0; s < SYMBOLS; s++) {
            bindings[s] = 1;
        }
    }

    public int addNode(int kind, int x, int y, int z) {
        if (count >= MAX_NODES || !validNode(kind, x, y, z)) {
            return -1;
        }
        int node = count;
        kinds[node] = kind;
        xs[node] = x;
        ys[node] = y;
        zs[node] = z;
        ranks[node] = rankByKind(kind, x, y, z);
        if (kind == K_INPUT) {
            fillData(node);
        }
        count = node + 1;
        shapeUnderAll(node);
        forgetRun();
        return node;
    }

    public int rankOf(int node) {
        return isNode(node) ? ranks[node] : -1;
    }

    public boolean accepted() {
        for (int n = 0; n < instantiations; n++) {
            if (traps[n] == NO_TRAP) {
                return true;
            }
        }
        return false;
    }

    public boolean admissible(int a, int b, int c) {
        if (!isSize(a) || !isSize(b) || !isSize(c)) {
            return false;
        }
        int n = instantiationOf(a, b, c);
        return traps[n] == NO_TRAP;
    }

    public int dimOf(int node, int k) {
        if (!hasDim(node, k) || !accepted()) {
            return DIM_NONE;
        }
        int place = placeOf(node, k);
        int fixed = commonSize(place);
        if (fixed != 0) {
            return fixed;
        }
        for (int s = 0; s < SYMBOLS; s++) {
            if (alwaysEqual(place, SYMBOL_PLACE + s)) {
                return -(s + 1);
            }
        }
        return DIM_VARIES;
    }

    public int symbolValue(int s) {
        return isSymbol(s) ? commonSize(SYMBOL_PLACE + s) : 0;
    }

    public boolean symbolsEqual(int s, int t) {
        return isSymbol(s) && isSymbol(t) && accepted()
                && alwaysEqual(SYMBOL_PLACE + s, SYMBOL_PLACE + t);
    }

    public boolean bind(int s, int v) {
        if (!isSymbol(s) || !isSize(v)) {
            return false;
        }
        bindings[s] = v;
        forgetRun();
        return true;
    }

    public int boundValue(int s) {
        return isSymbol(s) ? bindings[s] : 0;
    }

    public boolean setData(int node, int idx, int value) {
        if (!isNode(node) || kinds[node] != K_INPUT || idx < 0 || idx >= DATA_CELLS) {
            return false;
        }
        data[node * DATA_CELLS + idx] = value;
        forgetRun();
        return true;
    }

    public boolean run() {
        int n = boundInstantiation();
        boolean trapped = traps[n] != NO_TRAP;
        int end = trapped ? traps[n] : count;
        for (int node = 0; node < end; node++) {
            compute(n * STRIDE, node);
        }
        state = trapped ? RUN_TRAP : RUN_OK;
        computed = end;
        return !trapped;
    }

    public int runState() {
        return state;
    }

    public int trapNode() {
        return state == RUN_TRAP ? computed : -1;
    }

    public int valueDim(int node, int k) {
        if (!isComputed(node) || !hasDim(node, k)) {
            return 0;
        }
        // A new binding ends the run state, so the bindings are still those of the run.
        int base = boundInstantiation() * STRIDE;
        return sizes[base + placeOf(node, k)];
    }

    public int valueAt(int node, int idx) {
        if (!isComputed(node)) {
            return 0;
        }
        int base = boundInstantiation() * STRIDE;
        if (idx < 0 || idx >= elementCount(base, node)) {
            return 0;
        }
        return elements[node * DATA_CELLS + idx];
    }

    // ---- arguments ----

    private static int clampSize(int maxDim) {
        if (maxDim < LEAST_D) {
            return LEAST_D;
        }
        return maxDim > GREATEST_D ? GREATEST_D : maxDim;
    }

    private boolean isSize(int v) {
        return v >= 1 && v <= maxSize;
    }

    private static boolean isSymbol(int s) {
        return s >= 0 && s < SYMBOLS;
    }

    private boolean isNode(int node) {
        return node >= 0 && node < count;
    }

    private boolean isComputed(int node) {
        return node >= 0 && node < computed;
    }

    private boolean hasDim(int node, int k) {
        return isNode(node) && k >= 0 && k < ranks[node];
    }

    private boolean validCode(int code) {
        return isSize(code) || (code < 0 && code >= -SYMBOLS);
    }

    private boolean validSpec(int p, int q) {
        if (p == 0) {
            return q == 0;
        }
        return validCode(p) && (q == 0 || validCode(q));
    }

    private boolean validNode(int kind, int x, int y, int z) {
        switch (kind) {
            case K_INPUT:
                return validSpec(x, y);
            case K_ADD:
            case K_MUL:
                return isNode(x) && isNode(y);
            case K_MATMUL:
                return isNode(x) && isNode(y) && ranks[x] == 2 && ranks[y] == 2;
            case K_TRANSPOSE:
                return isNode(x);
            case K_RESHAPE:
                return isNode(x) && validSpec(y, z);
            case K_SUM:
                return hasDim(x, y);
            default:
                return false;
        }
    }

    private int rankByKind(int kind, int x, int y, int z) {
        switch (kind) {
            case K_INPUT:
                return specRank(x, y);
            case K_ADD:
            case K_MUL:
                return ranks[x] > ranks[y] ? ranks[x] : ranks[y];
            case K_RESHAPE:
                return specRank(y, z);
            case K_SUM:
                return ranks[x] - 1;
            default:
                return ranks[x];
        }
    }

    private static int specRank(int p, int q) {
        if (q != 0) {
            return 2;
        }
        return p != 0 ? 1 : 0;
    }

    private void fillData(int node) {
        for (int i = 0; i < DATA_CELLS; i++) {
            data[node * DATA_CELLS + i] = i + 1;
        }
    }

    private void forgetRun() {
        state = RUN_NONE;
        computed = 0;
    }

    // ---- instantiations and what holds in all admissible ones ----

    private void fillInstantiations() {
        for (int a = 1; a <= maxSize; a++) {
            for (int b = 1; b <= maxSize; b++) {
                for (int c = 1; c <= maxSize; c++) {
                    int n = instantiationOf(a, b, c);
                    traps[n] = NO_TRAP;
                    sizes[n * STRIDE + SYMBOL_PLACE] = a;
                    sizes[n * STRIDE + SYMBOL_PLACE + 1] = b;
                    sizes[n * STRIDE + SYMBOL_PLACE + 2] = c;
                }
            }
        }
    }

    private int instantiationOf(int a, int b, int c) {
        return ((a - 1) * maxSize + (b - 1)) * maxSize + (c - 1);
    }

    private int boundInstantiation() {
        return instantiationOf(bindings[0], bindings[1], bindings[2]);
    }

    private int placeOf(int node, int k) {
        return node * PLACES + PLACES - ranks[node] + k;
    }

    // Answers 0 if the admissible instantiations do not agree, or if there are none.
    private int commonSize(int place) {
        int common = 0;
        for (int n = 0; n < instantiations; n++) {
            if (traps[n] == NO_TRAP) {
                int size = sizes[n * STRIDE + place];
                if (common != 0 && common != size) {
                    return 0;
                }
                common = size;
            }
        }
        return common;
    }

    private boolean alwaysEqual(int place, int other) {
        for (int n = 0; n < instantiations; n++) {
            int base = n * STRIDE;
            if (traps[n] == NO_TRAP && sizes[base + place] != sizes[base + other]) {
                return false;
            }
        }
        return true;
    }

    // ---- shape rules ----

    // Nodes behind a trap are never shaped: an instantiation keeps its first trap.
    private void shapeUnderAll(int node) {
        for (int n = 0; n < instantiations; n++) {
            if (traps[n] == NO_TRAP && !shape(n * STRIDE, node)) {
                traps[n] = node;
            }
        }
    }

    // Answers false if the node traps.
    private boolean shape(int base, int node) {
        switch (kinds[node]) {
            case K_INPUT:
                return shapeSpec(base, node, xs[node], ys[node]);
            case K_ADD:
            case K_MUL:
                return shapeBroadcast(base, node);
            case K_MATMUL:
                return shapeMatmul(base, node);
            case K_TRANSPOSE:
                return shapeTranspose(base, node);
            case K_RESHAPE:
                return shapeSpec(base, node, ys[node], zs[node])
                        && sameCount(base, node, xs[node]);
            default:
                return shapeSum(base, node);
        }
    }

    private boolean shapeSpec(int base, int node, int p, int q) {
        if (q != 0) {
            int rows = sizeOfCode(base, p);
            int columns = sizeOfCode(base, q);
            return setShape(base, node, rows, columns);
        }
        int length = p != 0 ? sizeOfCode(base, p) : 1;
        return setShape(base, node, 1, length);
    }

    private int sizeOfCode(int base, int code) {
        return code > 0 ? code : sizes[base + SYMBOL_PLACE - code - 1];
    }

    private boolean shapeBroadcast(int base, int node) {
        int x = xs[node];
        int y = ys[node];
        int rowsX = rows(base, x);
        int rowsY = rows(base, y);
        int columnsX = columns(base, x);
        int columnsY = columns(base, y);
        if (!broadcasts(rowsX, rowsY) || !broadcasts(columnsX, columnsY)) {
            return false;
        }
        int rows = rowsX == 1 ? rowsY : rowsX;
        int columns = columnsX == 1 ? columnsY : columnsX;
        return setShape(base, node, rows, columns);
    }

    private static boolean broadcasts(int u, int v) {
        return u == v || u == 1 || v == 1;
    }

    private boolean shapeMatmul(int base, int node) {
        int x = xs[node];
        int y = ys[node];
        if (columns(base, x) != rows(base, y)) {
            return false;
        }
        int rows = rows(base, x);
        int columns = columns(base, y);
        return setShape(base, node, rows, columns);
    }

    private boolean shapeTranspose(int base, int node) {
        int rows = rows(base, xs[node]);
        int columns = columns(base, xs[node]);
        if (ranks[node] == 2) {
            return setShape(base, node, columns, rows);
        }
        return setShape(base, node, rows, columns);
    }

    private boolean sameCount(int base, int node, int other) {
        return elementCount(base, node) == elementCount(base, other);
    }

    private boolean shapeSum(int base, int node) {
        int left = sumsRows(node) ? columns(base, xs[node]) : rows(base, xs[node]);
        return setShape(base, node, 1, left);
    }

    // A rank 1 operand is held as one row, so its only axis runs along the columns.
    private boolean sumsRows(int node) {
        return ranks[xs[node]] == 2 && ys[node] == 0;
    }

    // Answers true, so that a rule that cannot trap any more ends with it.
    private boolean setShape(int base, int node, int rows, int columns) {
        sizes[base + node * PLACES] = rows;
        sizes[base + node * PLACES + 1] = columns;
        return true;
    }

    private int rows(int base, int node) {
        return sizes[base + node * PLACES];
    }

    private int columns(int base, int node) {
        return sizes[base + node * PLACES + 1];
    }

    private int elementCount(int base, int node) {
        int place = base + node * PLACES;
        return sizes[place] * sizes[place + 1];
    }

    // ---- value rules ----

    private void compute(int base, int node) {
        switch (kinds[node]) {
            case K_INPUT:
                computeInput(base, node);
                break;
            case K_ADD:
            case K_MUL:
                computeBroadcast(base, node);
                break;
            case K_MATMUL:
                computeMatmul(base, node);
                break;
            case K_TRANSPOSE:
                computeTranspose(base, node);
                break;
            case K_RESHAPE:
                computeCopy(base, node);
                break;
            default:
                computeSum(base, node);
                break;
        }
    }

    private void computeInput(int base, int node) {
        int first = node * DATA_CELLS;
        int length = elementCount(base, node);
        for (int i = 0; i < length; i++) {
            elements[first + i] = data[first + i];
        }
    }

    private void computeCopy(int base, int node) {
        int first = node * DATA_CELLS;
        int firstX = xs[node] * DATA_CELLS;
        int length = elementCount(base, node);
        for (int i = 0; i < length; i++) {
            elements[first + i] = elements[firstX + i];
        }
    }

    private void computeBroadcast(int base, int node) {
        int first = node * DATA_CELLS;
        int rows = rows(base, node);
        int columns = columns(base, node);
        for (int i = 0; i < rows; i++) {
            for (int j = 0; j < columns; j++) {
                int a = broadcastElement(base, xs[node], i, j);
                int b = broadcastElement(base, ys[node], i, j);
                elements[first + i * columns + j] = kinds[node] == K_ADD ? a + b : a * b;
            }
        }
    }

    private int broadcastElement(int base, int node, int i, int j) {
        int rows = rows(base, node);
        int columns = columns(base, node);
        int row = rows == 1 ? 0 : i;
        int column = columns == 1 ? 0 : j;
        return elements[node * DATA_CELLS + row * columns + column];
    }

    private void computeMatmul(int base, int node) {
        int first = node * DATA_CELLS;
        int rows = rows(base, node);
        int columns = columns(base, node);
        for (int i = 0; i < rows; i++) {
            for (int j = 0; j < columns; j++) {
                elements[first + i * columns + j] = matmulElement(base, node, i, j);
            }
        }
    }

    private int matmulElement(int base, int node, int i, int j) {
        int firstX = xs[node] * DATA_CELLS;
        int firstY = ys[node] * DATA_CELLS;
        int inner = columns(base, xs[node]);
        int columns = columns(base, node);
        int sum = 0;
        for (int t = 0; t < inner; t++) {
            sum += elements[firstX + i * inner + t] * elements[firstY + t * columns + j];
        }
        return sum;
    }

    private void computeTranspose(int base, int node) {
        if (ranks[node] != 2) {
            computeCopy(base, node);
            return;
        }
        int first = node * DATA_CELLS;
        int firstX = xs[node] * DATA_CELLS;
        int rows = rows(base, node);
        int columns = columns(base, node);
        for (int i = 0; i < rows; i++) {
            for (int j = 0; j < columns; j++) {
                elements[first + i * columns + j] = elements[firstX + j * rows + i];
            }
        }
    }

    private void computeSum(int base, int node) {
        int first = node * DATA_CELLS;
        int length = elementCount(base, node);
        for (int i = 0; i < length; i++) {
            elements[first + i] = sumsRows(node)
                    ? sumOfColumn(base, xs[node], i)
                    : sumOfRow(base, xs[node], i);
        }
    }

    private int sumOfColumn(int base, int node, int j) {
        int first = node * DATA_CELLS;
        int rows = rows(base, node);
        int columns = columns(base, node);
        int sum = 0;
        for (int i = 0; i < rows; i++) {
            sum += elements[first + i * columns + j];
        }
        return sum;
    }

    private int sumOfRow(int base, int node, int i) {
        int first = node * DATA_CELLS;
        int columns = columns(base, node);
        int sum = 0;
        for (int j = 0; j < columns; j++) {
            sum += elements[first + i * columns + j];
        }
        return sum;
    }
}
