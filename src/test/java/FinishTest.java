/** Promise 3, sentence by sentence. */
public final class FinishTest {
    private static final Check check = new Check();
    private static final String FIRST = "Promise 3, condition 1";
    private static final String SECOND = "Promise 3, condition 2";
    private static final String THIRD = "Promise 3, condition 3";
    private static final String AFTER = "Promise 3, behind the conditions";

    public static void main(String[] args) {
        refusedWhenNothingPending();
        refusalKeepsRun();
        nothingPendingComesBeforeFull();
        refusedWhenFull();
        refusalWhenFullChangesNothing();
        storesWithLastFlag();
        storedValueRange();
        countGrowsByOne();
        nothingIsPendingAnyMore();
        runBecomesZero();
        answersNewCount();
        keepsEarlierEvents();
        example();
        furtherFinish();
        goesOnAfterwards();
        nextValueIsOnlyPending();
        check.end();
    }

    private static void refusedWhenNothingPending() {
        check.sentence(FIRST, "Nothing is pending: refused, answers -2.");
        for (State state : State.nothingPending()) {
            check.due(state + " finish()", state.make().finish(), -2);
        }
    }

    private static void refusalKeepsRun() {
        check.sentence(FIRST, "Nothing changes; run in particular keeps its value.");
        for (State state : State.nothingPending()) {
            LastRunLevel x = state.make();
            x.finish();
            x.finish();
            check.dueState(state + " after refused finish()", x, state);
        }
        LastRunLevel y = new LastRunLevel();
        Check.feedZeros(y, 2);
        y.finish();
        Check.feedZeros(y, 1);
        y.finish();
        y.feed(5);
        y.feed(6);
        check.dueEvents("a run of 3 over two refused finish()", y, 3 * 512 + 5);
    }

    private static void nothingPendingComesBeforeFull() {
        check.sentence(FIRST, "This takes precedence even when count is 16.");
        for (int zeros : new int[] {0, 1, 64}) {
            State full = new State(16, false, zeros);
            LastRunLevel x = full.make();
            check.due(full + " finish()", x.finish(), -2);
            check.due(full + " finish() again", x.finish(), -2);
            check.dueState(full + " after finish()", x, full);
        }
    }

    private static void refusedWhenFull() {
        check.sentence(SECOND, "count is 16 (and an event is pending): refused, answers -1.");
        for (State full : State.pendingWhenFull()) {
            check.due(full + " finish()", full.make().finish(), -1);
        }
        LastRunLevel x = new State(16, false, 0).make();
        x.feed(5);
        check.due("the sixteenth stored by finish(), feed(5), finish()", x.finish(), -1);
    }

    private static void refusalWhenFullChangesNothing() {
        check.sentence(SECOND, "Nothing changes; the pending event, run and the committed events stay as they were.");
        for (State full : State.pendingWhenFull()) {
            LastRunLevel x = full.make();
            x.finish();
            x.finish();
            check.dueState(full + " after refused finish()", x, full);
        }
    }

    private static void storesWithLastFlag() {
        check.sentence(THIRD, "the pending event is stored at `events[count]` with bit 15 set (last = 1)");
        for (State state : State.pendingWithRoom()) {
            LastRunLevel x = state.make();
            x.finish();
            int[] want = Check.with(state.events(), 32768 + state.pendingEvent());
            check.dueEvents(state + " finish()", x, want);
        }
    }

    private static void storedValueRange() {
        check.sentence(THIRD, "so the stored value lies in 32768..65535;");
        int[] values = {1, 511, 512, -1, -512, 32768, 65536, Integer.MIN_VALUE, Integer.MAX_VALUE};
        for (int run : new int[] {0, 1, 63, 64, 65, 127, 128}) {
            for (int c : values) {
                LastRunLevel x = new LastRunLevel();
                Check.feedZeros(x, run);
                x.feed(c);
                x.finish();
                int want = 32768 + run % 64 * 512 + Math.floorMod(c, 512);
                check.dueEvents(run + " zeros, feed(" + c + "), finish()", x, want);
            }
        }
    }

    private static void countGrowsByOne() {
        check.sentence(THIRD, "count grows by one;");
        for (State state : State.pendingWithRoom()) {
            LastRunLevel x = state.make();
            x.finish();
            check.due(state + " finish(), count()", x.count(), state.count() + 1);
        }
    }

    private static void nothingIsPendingAnyMore() {
        check.sentence(THIRD, "nothing is pending any more;");
        for (State state : State.pendingWithRoom()) {
            LastRunLevel x = state.make();
            x.finish();
            check.due(state + " finish(), finish()", x.finish(), -2);
            check.due(state + " finish(), feed(9)", x.feed(9), state.count() + 1);
        }
    }

    private static void runBecomesZero() {
        check.sentence(THIRD, "run becomes 0;");
        for (State state : State.pendingWithRoom()) {
            LastRunLevel x = state.make();
            x.finish();
            int[] stored = Check.with(state.events(), 32768 + state.pendingEvent());
            x.feed(9);
            if (stored.length < State.FULL) {
                x.finish();
                check.dueEvents(state + " finish(), feed(9), finish()", x, Check.with(stored, 32768 + 9));
            }
        }
    }

    private static void answersNewCount() {
        check.sentence(THIRD, "the call answers the new count.");
        for (State state : State.pendingWithRoom()) {
            check.due(state + " finish()", state.make().finish(), state.count() + 1);
        }
        LastRunLevel x = new LastRunLevel();
        for (int n = 1; n <= 16; n++) {
            x.feed(n);
            check.due("finish() " + n, x.finish(), n);
        }
    }

    private static void keepsEarlierEvents() {
        check.sentence(AFTER, "The committed events before `events[count]` are not changed by `finish`.");
        for (State state : State.all()) {
            LastRunLevel x = state.make();
            x.finish();
            for (int i = 0; i < state.count(); i++) {
                check.due(state + " finish(), event(" + i + ")", x.event(i), state.events()[i]);
            }
        }
    }

    private static void example() {
        check.sentence(AFTER, "Continuing the example above, `finish()` stores `511 | 1 << 15` (= 33279) at"
                + " `events[1]` and answers 2.");
        LastRunLevel x = exampleOfPromiseTwo();
        check.due("finish()", x.finish(), 2);
        check.dueEvents("finish()", x, 1029, 33279);
    }

    private static void furtherFinish() {
        check.sentence(AFTER, "After that, a further `finish()` answers -2.");
        LastRunLevel x = exampleOfPromiseTwo();
        x.finish();
        check.due("a further finish()", x.finish(), -2);
        check.dueEvents("a further finish()", x, 1029, 33279);
    }

    private static LastRunLevel exampleOfPromiseTwo() {
        LastRunLevel x = new LastRunLevel();
        x.feed(0);
        x.feed(0);
        x.feed(5);
        x.feed(-1);
        return x;
    }

    private static void goesOnAfterwards() {
        check.sentence(AFTER, "After a successful `finish`, the object continues to accept `feed` calls under the"
                + " rules of Promise 2.");
        LastRunLevel x = new LastRunLevel();
        x.feed(1);
        x.finish();
        check.due("feed(0)", x.feed(0), 1);
        check.due("feed(2)", x.feed(2), 1);
        check.due("feed(3)", x.feed(3), 2);
        check.due("finish()", x.finish(), 3);
        check.dueEvents("at the end", x, 32768 + 1, 512 + 2, 32768 + 3);
    }

    private static void nextValueIsOnlyPending() {
        check.sentence(AFTER, "Nothing is pending, so the next non-zero value only creates a pending event.");
        for (State state : State.pendingWithRoom()) {
            LastRunLevel x = state.make();
            x.finish();
            check.due(state + " finish(), feed(9)", x.feed(9), state.count() + 1);
            int[] want = Check.with(state.events(), 32768 + state.pendingEvent());
            check.dueEvents(state + " finish(), feed(9)", x, want);
        }
    }
}
