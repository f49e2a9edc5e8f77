import java.util.function.Supplier;

/** Shows that a call has changed nothing, by a nursery that was made in the same way and was not called. */
final class Unchanged {
    interface Call {
        int on(NurseryPlaces x);
    }

    /** What is hidden comes to light by these: the history, the slots, the pad, who was placed last, who is sick. */
    private static final Call[] LOOKS = {
        x -> 0, x -> undo(x, 1), x -> undo(x, 2), x -> undo(x, 3), x -> undo(x, 4), x -> undo(x, 5), x -> undo(x, 6), x -> undo(x, 7),
        x -> x.restore(0), x -> x.restore(1), x -> x.carryOut(), x -> x.wipe(), x -> x.put('a'), x -> x.weeks(1), x -> x.admit()};

    private Unchanged() {
    }

    static void due(Check check, String text, Supplier<NurseryPlaces> maker, Call call, int answer) {
        check.due(text, call.on(maker.get()), answer);
        for (int i = 0; i < LOOKS.length; i++) {
            NurseryPlaces called = maker.get();
            NurseryPlaces other = maker.get();
            call.on(called);
            check.due(text + ", then look " + i, LOOKS[i].on(called), LOOKS[i].on(other));
            check.that(text + " changed nothing, seen by look " + i, Seen.of(called).equals(Seen.of(other)));
        }
    }

    private static int undo(NurseryPlaces x, int times) {
        int answer = 0;
        for (int i = 0; i < times; i++) answer = x.undo();
        return answer;
    }
}
