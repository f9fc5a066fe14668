import java.util.function.Consumer;
import java.util.function.Supplier;

/** Shows that a call changes nothing: of two equal objects, one gets it and the other does not. */
final class Unchanged {
    private Unchanged() {
    }

    static void by(Check check, String calls, Supplier<ShapeInference> made,
            Consumer<ShapeInference> call) {
        ShapeInference got = made.get();
        ShapeInference want = made.get();
        call.accept(got);
        Answers.now(got).same(check, calls, Answers.now(want));
        Answers.later(got).same(check, calls + " and more calls", Answers.later(want));
    }

    /** The same, but for the run state and what can be read of a run. */
    static void butForTheRun(Check check, String calls, Supplier<ShapeInference> made,
            Consumer<ShapeInference> call) {
        ShapeInference got = made.get();
        ShapeInference want = made.get();
        call.accept(got);
        Answers.withoutRun(got).same(check, calls, Answers.withoutRun(want));
        Answers.later(got).same(check, calls + " and more calls", Answers.later(want));
    }

    /** In every state. */
    static void everywhere(Check check, String calls, Consumer<ShapeInference> call) {
        for (Start start : Start.values()) {
            by(check, start + ": " + calls, start::make, call);
        }
    }
}
