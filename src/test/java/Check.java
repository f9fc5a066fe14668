/** What every test of the project uses: it counts the answers that are not as due. */
final class Check {
    private final String name;
    private String sentence = "";
    private int askedForSentence = 0;
    private int wrongForSentence = 0;
    private int asked = 0;
    private int wrong = 0;

    Check(String name) {
        this.name = name;
    }

    /** What is asked from here on is asked for this sentence of the document. */
    void sentence(String words) {
        endSentence();
        sentence = words;
        askedForSentence = 0;
        wrongForSentence = 0;
    }

    private void endSentence() {
        if (!sentence.isEmpty() && askedForSentence == 0) {
            wrong++;
            System.out.println(name + ": nothing is asked for \"" + sentence + "\"");
        }
    }

    void due(String call, long got, long want) {
        asked++;
        askedForSentence++;
        if (got != want) {
            wrong++;
            wrongForSentence++;
            // so few that the sentences after a broken one are seen as well
            if (wrongForSentence <= (sentence.isEmpty() ? 50 : 5)) {
                String of = sentence.isEmpty() ? "" : "\"" + sentence + "\": ";
                System.out.println(name + ": " + of + call + " answered " + got
                        + ", due is " + want);
            }
        }
    }

    void due(String call, boolean got, boolean want) {
        due(call, got ? 1 : 0, want ? 1 : 0);
    }

    /** All elements of a node, and that the cells just outside them answer 0. */
    void elements(ShapeInference x, int node, int... want) {
        for (int i = 0; i < want.length; i++) {
            due("valueAt(" + node + ", " + i + ")", x.valueAt(node, i), want[i]);
        }
        due("valueAt(" + node + ", " + want.length + ")", x.valueAt(node, want.length), 0);
        due("valueAt(" + node + ", -1)", x.valueAt(node, -1), 0);
    }

    /** The computed shape of a node, and that there is no dim outside it. */
    void shape(ShapeInference x, int node, int... want) {
        due("rankOf(" + node + ")", x.rankOf(node), want.length);
        for (int k = 0; k < want.length; k++) {
            due("valueDim(" + node + ", " + k + ")", x.valueDim(node, k), want[k]);
        }
        due("valueDim(" + node + ", " + want.length + ")", x.valueDim(node, want.length), 0);
        due("valueDim(" + node + ", -1)", x.valueDim(node, -1), 0);
    }

    /** The inferred dims of a node, and that there is no dim outside them. */
    void dims(ShapeInference x, int node, int... want) {
        for (int k = 0; k < want.length; k++) {
            due("dimOf(" + node + ", " + k + ")", x.dimOf(node, k), want[k]);
        }
        due("dimOf(" + node + ", " + want.length + ")", x.dimOf(node, want.length), 0);
        due("dimOf(" + node + ", -1)", x.dimOf(node, -1), 0);
    }

    void end() {
        endSentence();
        System.out.println(name + ": " + asked + " answers, " + wrong + " not as due");
        if (wrong != 0 || asked == 0) {
            System.exit(1);
        }
    }
}
