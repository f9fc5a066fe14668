/** Writes a program into a new object, so that a test reads as the list of its nodes. */
final class Program {
    final ShapeInference x;

    Program(int maxDim) {
        x = new ShapeInference(maxDim);
    }

    Program input(int p, int q) {
        x.addNode(ShapeInference.K_INPUT, p, q, 0);
        return this;
    }

    Program add(int a, int b) {
        x.addNode(ShapeInference.K_ADD, a, b, 0);
        return this;
    }

    Program mul(int a, int b) {
        x.addNode(ShapeInference.K_MUL, a, b, 0);
        return this;
    }

    Program matmul(int a, int b) {
        x.addNode(ShapeInference.K_MATMUL, a, b, 0);
        return this;
    }

    Program transpose(int a) {
        x.addNode(ShapeInference.K_TRANSPOSE, a, 0, 0);
        return this;
    }

    Program reshape(int a, int p, int q) {
        x.addNode(ShapeInference.K_RESHAPE, a, p, q);
        return this;
    }

    Program sum(int a, int axis) {
        x.addNode(ShapeInference.K_SUM, a, axis, 0);
        return this;
    }

    Program bind(int a, int b, int c) {
        x.bind(0, a);
        x.bind(1, b);
        x.bind(2, c);
        return this;
    }

    /** Sets the data cells from cell 0 on. */
    Program data(int node, int... values) {
        for (int i = 0; i < values.length; i++) {
            x.setData(node, i, values[i]);
        }
        return this;
    }

    Program run() {
        x.run();
        return this;
    }
}
