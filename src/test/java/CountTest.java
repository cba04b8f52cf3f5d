/** Promise 5, sentence by sentence. */
public final class CountTest {
    private static final Check check = new Check();
    private static final String PROMISE = "Promise 5";

    public static void main(String[] args) {
        answersCommitted();
        neverAboveSixteen();
        neverBelowZero();
        pendingIsNotIncluded();
        stateIsUnchanged();
        check.end();
    }

    private static void answersCommitted() {
        check.sentence(PROMISE, "`int count()` answers count, the number of committed events");
        for (State state : State.all()) {
            check.due(state + " count()", state.make().count(), state.count());
        }
    }

    private static void neverAboveSixteen() {
        check.sentence(PROMISE, "always in 0..16 (full)");
        for (State full : State.pendingWhenFull()) {
            LastRunLevel x = full.make();
            x.feed(1);
            check.due(full + " count() after refused feed(1)", x.count(), 16);
            x.finish();
            check.due(full + " count() after refused finish()", x.count(), 16);
            x.feed(0);
            check.due(full + " count() after feed(0)", x.count(), 16);
        }
        LastRunLevel y = new State(16, false, 0).make();
        y.feed(1);
        check.due("full, nothing pending: count() after feed(1)", y.count(), 16);
        LastRunLevel z = new State(15, true, 0).make();
        check.due("15 and one pending: count()", z.count(), 15);
        z.finish();
        check.due("15 and one pending: count() after finish()", z.count(), 16);
    }

    private static void neverBelowZero() {
        check.sentence(PROMISE, "always in 0..16 (empty)");
        LastRunLevel x = new LastRunLevel();
        x.finish();
        check.due("count() after refused finish()", x.count(), 0);
        x.event(0);
        x.event(-1);
        check.due("count() after event() outside", x.count(), 0);
        x.feed(0);
        check.due("count() after feed(0)", x.count(), 0);
    }

    private static void pendingIsNotIncluded() {
        check.sentence(PROMISE, "The pending event is not included.");
        LastRunLevel x = new LastRunLevel();
        x.feed(3);
        check.due("count(), the first value pending", x.count(), 0);
        x.feed(4);
        check.due("count(), the second value pending", x.count(), 1);
        x.finish();
        check.due("count(), none pending", x.count(), 2);
        x.feed(5);
        check.due("count(), a value after finish() pending", x.count(), 2);
    }

    private static void stateIsUnchanged() {
        check.sentence(PROMISE, "The state is unchanged.");
        for (State state : State.all()) {
            LastRunLevel x = state.make();
            x.count();
            x.count();
            check.dueState(state + " after count()", x, state);
        }
    }
}
