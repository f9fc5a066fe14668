import java.util.function.Consumer;
import java.util.function.Function;
import java.util.function.Supplier;

/** Shows that a call changes nothing: of two equal objects, one gets it and the other does not. */
final class Unchanged {
    private final Check check;
    private final String calls;
    private final Supplier<ShapeInference> made;
    private final Consumer<ShapeInference> call;

    private Unchanged(Check check, String calls, Supplier<ShapeInference> made,
            Consumer<ShapeInference> call) {
        this.check = check;
        this.calls = calls;
        this.made = made;
        this.call = call;
    }

    private void compare(Function<ShapeInference, Answers> ask, Function<ShapeInference, Answers> then) {
        ShapeInference got = made.get();
        ShapeInference want = made.get();
        call.accept(got);
        ask.apply(got).same(check, calls, ask.apply(want));
        then.apply(got).same(check, calls + " and more calls", then.apply(want));
    }

    static void by(Check check, String calls, Supplier<ShapeInference> made,
            Consumer<ShapeInference> call) {
        new Unchanged(check, calls, made, call).compare(Answers::now, Answers::later);
    }

    /** The same, but for the run state and what can be read of a run. */
    static void butForTheRun(Check check, String calls, Supplier<ShapeInference> made,
            Consumer<ShapeInference> call) {
        new Unchanged(check, calls, made, call).compare(Answers::withoutRun, Answers::later);
    }

    /**
     * A question, in every state. If it changes something, asking it of both objects would hide
     * that, so there are pairs of objects for which other questions come first.
     */
    static void byAsking(Check check, String calls, Consumer<ShapeInference> call) {
        for (Start start : Start.values()) {
            Unchanged u = new Unchanged(check, start + ": " + calls, start::make, call);
            u.compare(Answers::now, Answers::later);
            u.compare(Answers::withoutRun, Answers::now);
            u.compare(Answers::ofProgramOnly, Answers::now);
            u.compare(Answers::later, Answers::now);
        }
    }
}
