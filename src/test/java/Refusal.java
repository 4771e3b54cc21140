import java.util.function.Consumer;
import java.util.function.ToIntFunction;

/** A call that must be refused and change nothing, made on one of two objects that are alike. */
final class Refusal {
    private Refusal() {
    }

    static void due(String what, Consumer<SevenPassImage> start,
            ToIntFunction<SevenPassImage> call, int answer) {
        SevenPassImage x = new SevenPassImage();
        start.accept(x);
        String before = State.of(x);
        Checks.due(what, call.applyAsInt(x), answer);
        Checks.due(what + ": state", State.of(x), before);
        // Nothing hidden has changed either: what comes next is as it is without the call.
        SevenPassImage twin = new SevenPassImage();
        start.accept(twin);
        Checks.due(what + ": next read", x.read(), twin.read());
        Checks.due(what + ": next write", x.write(true, 5), twin.write(true, 5));
        Checks.due(what + ": state afterwards", State.of(x), State.of(twin));
    }

    static void due(String what, Consumer<SevenPassImage> start, Call call) {
        due(what, start, x -> call.on(x) ? 1 : 0, 0);
    }

    /** A call that answers true or false. */
    interface Call {
        boolean on(SevenPassImage x);
    }
}
