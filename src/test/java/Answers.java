import java.util.ArrayList;
import java.util.List;

/** All answers of an object, over the arguments in their ranges and those just outside. */
final class Answers {
    private record Asked(String method, int a, int b, int c) {
        @Override
        public String toString() {
            return method + "(" + a + ", " + b + ", " + c + ")";
        }
    }

    private final List<Asked> asked = new ArrayList<>();
    private final List<Integer> answers = new ArrayList<>();

    private void note(String method, int a, int b, int c, int answer) {
        asked.add(new Asked(method, a, b, c));
        answers.add(answer);
    }

    private void note(String method, int a, int b, int c, boolean answer) {
        note(method, a, b, c, answer ? 1 : 0);
    }

    private void ofProgram(ShapeInference x) {
        note("accepted", 0, 0, 0, x.accepted());
        for (int a = 0; a <= 7; a++) {
            for (int b = 0; b <= 7; b++) {
                for (int c = 0; c <= 7; c++) {
                    note("admissible", a, b, c, x.admissible(a, b, c));
                }
            }
        }
        for (int node = -1; node <= 16; node++) {
            note("rankOf", node, 0, 0, x.rankOf(node));
            for (int k = -1; k <= 2; k++) {
                note("dimOf", node, k, 0, x.dimOf(node, k));
            }
        }
    }

    private void ofSymbols(ShapeInference x) {
        for (int s = -1; s <= 3; s++) {
            note("boundValue", s, 0, 0, x.boundValue(s));
        }
        for (int s = -1; s <= 3; s++) {
            note("symbolValue", s, 0, 0, x.symbolValue(s));
            for (int t = -1; t <= 3; t++) {
                note("symbolsEqual", s, t, 0, x.symbolsEqual(s, t));
            }
        }
    }

    private void ofRun(ShapeInference x) {
        note("runState", 0, 0, 0, x.runState());
        note("trapNode", 0, 0, 0, x.trapNode());
        for (int node = -1; node <= 16; node++) {
            for (int k = -1; k <= 2; k++) {
                note("valueDim", node, k, 0, x.valueDim(node, k));
            }
            for (int i = -1; i <= 36; i++) {
                note("valueAt", node, i, 0, x.valueAt(node, i));
            }
        }
    }

    /** What can be asked without a change. */
    static Answers now(ShapeInference x) {
        Answers all = new Answers();
        all.ofRun(x);
        all.ofSymbols(x);
        all.ofProgram(x);
        return all;
    }

    /** The same without the run state and what a run computed. */
    static Answers withoutRun(ShapeInference x) {
        Answers all = new Answers();
        all.ofSymbols(x);
        all.ofProgram(x);
        return all;
    }

    /** The same of the program alone. */
    static Answers ofProgramOnly(ShapeInference x) {
        Answers all = new Answers();
        all.ofProgram(x);
        return all;
    }

    /**
     * What shows only in later calls: the data of the inputs, the operands of the nodes and how
     * many nodes fit still. It changes the object.
     */
    static Answers later(ShapeInference x) {
        Answers all = new Answers();
        int[][] bindings = {{1, 1, 1}, {2, 3, 3}, {2, 3, 2}, {3, 2, 1}, {6, 6, 6}};
        all.note("run", 0, 0, 0, x.run());
        all.ofRun(x);
        for (int[] values : bindings) {
            for (int s = 0; s < 3; s++) {
                all.note("bind", s, values[s], 0, x.bind(s, values[s]));
            }
            all.note("run", values[0], values[1], values[2], x.run());
            all.ofRun(x);
        }
        for (int i = 0; i <= 16; i++) {
            all.note("addNode", 1, 6, 6, x.addNode(1, 6, 6, 0));
        }
        all.note("run", 0, 0, 0, x.run());
        all.ofRun(x);
        return all;
    }

    /** Every answer that is not the same is reported to the check. */
    void same(Check check, String what, Answers want) {
        int differing = 0;
        for (int i = 0; i < answers.size() && differing < 5; i++) {
            if (!answers.get(i).equals(want.answers.get(i))) {
                differing++;
                check.due(what + ", then " + asked.get(i), answers.get(i), want.answers.get(i));
            }
        }
        check.due(what + ", then answers that differ", differing, 0);
    }
}
