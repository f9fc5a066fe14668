/**
 * The states in which a call is tried: every run state, without nodes, with some and with all 16,
 * with and without an admissible instantiation. Each make() gives a new object in the same state.
 */
enum Start {
    EMPTY(0, ShapeInference.RUN_NONE, -1),
    EMPTY_RUN(0, ShapeInference.RUN_OK, -1),
    SOME(10, ShapeInference.RUN_NONE, -1),
    SOME_RUN(10, ShapeInference.RUN_OK, -1),
    SOME_BEFORE_TRAP(10, ShapeInference.RUN_NONE, -1),
    SOME_TRAPPED(10, ShapeInference.RUN_TRAP, 2),
    FULL(16, ShapeInference.RUN_NONE, -1),
    FULL_RUN(16, ShapeInference.RUN_OK, -1),
    FULL_TRAPPED(16, ShapeInference.RUN_TRAP, 2),
    HOPELESS(4, ShapeInference.RUN_NONE, -1),
    HOPELESS_TRAPPED(4, ShapeInference.RUN_TRAP, 3);

    static final int D = 6;

    final int count;
    final int runState;
    final int trapNode;

    Start(int count, int runState, int trapNode) {
        this.count = count;
        this.runState = runState;
        this.trapNode = trapNode;
    }

    boolean full() {
        return count == 16;
    }

    /** Nodes of rank 2: 0, 2, 4, 5, 6, 7, 9; of rank 1: 1, 8; of rank 0: 3. Inputs: 0, 1, 3, 9. */
    boolean hasSome() {
        return count >= 10;
    }

    ShapeInference make() {
        switch (this) {
            case EMPTY: return new ShapeInference(D);
            case EMPTY_RUN: return new Program(D).run().x;
            case SOME: return some().x;
            case SOME_RUN: return some().run().x;
            case SOME_BEFORE_TRAP: return some().bind(2, 3, 2).x;
            case SOME_TRAPPED: return some().bind(2, 3, 2).run().x;
            case FULL: return all().x;
            case FULL_RUN: return all().run().x;
            case FULL_TRAPPED: return all().bind(2, 3, 2).run().x;
            case HOPELESS: return hopeless().x;
            default: return hopeless().run().x;
        }
    }

    private static Program some() {
        Program p = new Program(D).input(-1, -2).input(-3, 0).add(0, 1).input(0, 0).mul(2, 3)
                .transpose(0).matmul(0, 5).reshape(1, -3, 1).sum(2, 0).input(6, 6);
        for (int i = 0; i < 36; i++) {
            p.x.setData(0, i, 10 * i - 7);
            p.x.setData(9, i, 1000 - i);
        }
        return p.data(1, 5, 6, 7, 8, 9, 10).data(3, -2).bind(2, 3, 3);
    }

    private static Program all() {
        return some().input(-2, 0).sum(1, 0).transpose(9).matmul(9, 12).mul(3, 3).input(2, 3)
                .data(10, 21, 22, 23, 24, 25, 26).data(15, 31, 32, 33, 34, 35, 36);
    }

    private static Program hopeless() {
        return new Program(D).input(-1, 0).input(2, 0).input(3, 0).add(1, 2)
                .data(0, 4, 5, 6).bind(3, 2, 4);
    }
}
