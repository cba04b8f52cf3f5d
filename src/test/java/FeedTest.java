/** Promise 2, sentence by sentence; those that need a run past Integer.MAX_VALUE are in LongRunTest. */
public final class FeedTest {
    private static final Check check = new Check();
    private static final String CASE_A = "Promise 2, case A";
    private static final String CASE_B = "Promise 2, case B";
    private static final String CASE_C = "Promise 2, case C";
    private static final String EDGES = "Promise 2, edges of case C";
    private static final int[] NOT_ZERO = {
        Integer.MIN_VALUE, Integer.MIN_VALUE + 1, -65536, -513, -512, -511, -1,
        1, 511, 512, 513, 1024, 32768, 65536, Integer.MAX_VALUE - 1, Integer.MAX_VALUE
    };

    public static void main(String[] args) {
        zeroIsNeverRefused();
        zeroLengthensRun();
        zeroAnswersCount();
        zeroChangesNothingElse();
        zeroWhenPendingAndFull();
        refusedWhenPendingAndFull();
        refusedWhenFilledByFinish();
        refusedChangesNothing();
        takenWhenNothingPending();
        takenWhenPendingAndRoom();
        pendingIsStored();
        lastRoomIsFilled();
        runIsTakenBeforeTheCall();
        runBecomesZero();
        answersCountAfterStoring();
        lowSixBitsOfRun();
        sixtyFourAndSixtyFive();
        lowNineBitsOfLevel();
        levelFieldZeroStartsAnEvent();
        negativeLevel();
        packedZeroIsPending();
        packedZeroExample();
        storedByFeedHasNoLastFlag();
        notRefusedWhenFullAndNothingPending();
        pendingIsNotVisible();
        example();
        check.end();
    }

    private static void zeroIsNeverRefused() {
        check.sentence(CASE_A, "This is never refused.");
        for (State state : State.all()) {
            LastRunLevel x = state.make();
            for (int n = 0; n < 70; n++) {
                check.holds(state + " feed(0) is not refused", x.feed(0) >= 0);
            }
        }
    }

    private static void zeroLengthensRun() {
        check.sentence(CASE_A, "run grows by one");
        for (State state : State.all()) {
            LastRunLevel x = state.make();
            x.feed(0);
            check.dueState(state + " after feed(0)", x, state.withRun(state.run() + 1));
        }
    }

    private static void zeroAnswersCount() {
        check.sentence(CASE_A, "The call answers the current count.");
        for (State state : State.all()) {
            check.due(state + " feed(0)", state.make().feed(0), state.count());
        }
    }

    private static void zeroChangesNothingElse() {
        check.sentence(CASE_A, "Nothing else changes. The pending event, count and the committed events stay as they"
                + " were.");
        for (State state : State.pendingWithRoom()) {
            LastRunLevel x = state.make();
            Check.feedZeros(x, 5);
            check.dueEvents(state + " after zeros", x, state.events());
            x.finish();
            int[] want = Check.with(state.events(), 32768 + state.pendingEvent());
            check.dueEvents(state + " after zeros, finish()", x, want);
        }
        for (State state : State.nothingPending()) {
            LastRunLevel x = state.make();
            Check.feedZeros(x, 5);
            check.due(state + " after zeros: finish()", x.finish(), -2);
            check.dueEvents(state + " after zeros", x, state.events());
        }
    }

    private static void zeroWhenPendingAndFull() {
        check.sentence(CASE_A, "This holds even when an event is pending and count is 16.");
        for (State full : State.pendingWhenFull()) {
            LastRunLevel x = full.make();
            for (int n = 0; n < 70; n++) {
                check.due(full + " feed(0)", x.feed(0), 16);
            }
            check.dueState(full + " after feed(0)", x, full);
        }
    }

    private static void refusedWhenPendingAndFull() {
        check.sentence(CASE_B, "The call is refused and answers -1.");
        for (State full : State.pendingWhenFull()) {
            for (int c : NOT_ZERO) {
                check.due(full + " feed(" + c + ")", full.make().feed(c), -1);
            }
        }
    }

    private static void refusedWhenFilledByFinish() {
        check.sentence(CASE_B, "an event is pending, and count is 16 (the sixteenth stored by finish)");
        for (int c : NOT_ZERO) {
            LastRunLevel x = new State(16, false, 0).make();
            check.due("feed(512), nothing pending", x.feed(512), 16);
            check.due("then feed(" + c + ")", x.feed(c), -1);
            check.due("then feed(" + c + ") again", x.feed(c), -1);
            check.dueEvents("then", x, new State(16, false, 0).events());
        }
    }

    private static void refusedChangesNothing() {
        check.sentence(CASE_B, "Nothing changes: run, the pending event, count and the committed events all stay as"
                + " they were.");
        for (State full : State.pendingWhenFull()) {
            for (int c : NOT_ZERO) {
                LastRunLevel x = full.make();
                x.feed(c);
                check.due(full + " feed(0) after refused feed(" + c + ")", x.feed(0), 16);
                check.dueState(full + " after refused feed(" + c + ")", x, full);
            }
        }
    }

    private static void takenWhenNothingPending() {
        check.sentence(CASE_C, "no event is pending, whatever count is, including 16;");
        for (State state : State.nothingPending()) {
            for (int c : NOT_ZERO) {
                LastRunLevel x = state.make();
                check.due(state + " feed(" + c + ")", x.feed(c), state.count());
                check.dueEvents(state + " feed(" + c + ")", x, state.events());
                check.holds(state + " feed(" + c + ") makes an event pending", x.finish() != -2);
            }
        }
    }

    private static void takenWhenPendingAndRoom() {
        check.sentence(CASE_C, "an event is pending and count is below 16.");
        for (State state : State.pendingWithRoom()) {
            for (int c : NOT_ZERO) {
                LastRunLevel x = state.make();
                check.due(state + " feed(" + c + ")", x.feed(c), state.count() + 1);
                check.holds(state + " feed(" + c + ") makes an event pending", x.finish() != -2);
            }
        }
    }

    private static void pendingIsStored() {
        check.sentence(CASE_C, "1. If an event is pending, it is stored at `events[count]` with last = 0, and count"
                + " grows by one.");
        for (State state : State.pendingWithRoom()) {
            LastRunLevel x = state.make();
            x.feed(9);
            check.dueEvents(state + " feed(9)", x, Check.with(state.events(), state.pendingEvent()));
        }
    }

    private static void lastRoomIsFilled() {
        check.sentence(CASE_C, "count is below 16 (the sixteenth is stored, the seventeenth is not)");
        LastRunLevel x = new State(15, true, 0).make();
        check.due("15 and one pending: feed(9)", x.feed(9), 16);
        check.due("16 and one pending: feed(9)", x.feed(9), -1);
        check.dueEvents("15 and one pending: twice feed(9)", x, new State(16, true, 0).events());
    }

    private static void runIsTakenBeforeTheCall() {
        check.sentence(CASE_C, "2. The new pending event becomes `(run & 63) << 9 | (c & 511)`, taken with run as it"
                + " was before this call.");
        for (State state : State.all()) {
            for (int c : NOT_ZERO) {
                showsNewPending(state, c);
            }
        }
    }

    /** By the finish after it, where there is room for that. */
    private static void showsNewPending(State state, int c) {
        int[] before = state.pending() ? Check.with(state.events(), state.pendingEvent()) : state.events();
        if (before.length >= State.FULL) {
            return;
        }
        LastRunLevel x = state.make();
        x.feed(c);
        x.finish();
        int packed = state.run() % 64 * 512 + Math.floorMod(c, 512);
        check.dueEvents(state + " feed(" + c + "), finish()", x, Check.with(before, 32768 + packed));
    }

    private static void runBecomesZero() {
        check.sentence(CASE_C, "3. run becomes 0.");
        LastRunLevel x = new LastRunLevel();
        Check.feedZeros(x, 3);
        x.feed(10);
        x.feed(11);
        Check.feedZeros(x, 1);
        x.feed(12);
        Check.feedZeros(x, 4);
        x.feed(13);
        x.feed(14);
        check.dueEvents("runs 3, 0, 1, 4", x, 3 * 512 + 10, 11, 512 + 12, 4 * 512 + 13);
    }

    private static void answersCountAfterStoring() {
        check.sentence(CASE_C, "4. The call answers the new count, which is the count after step 1.");
        LastRunLevel x = new LastRunLevel();
        for (int c = 1; c <= 17; c++) {
            int answer = x.feed(c);
            check.due("value " + c, answer, c - 1);
            check.due("count() after value " + c, x.count(), answer);
        }
    }

    private static void lowSixBitsOfRun() {
        check.sentence(EDGES, "Only the low six bits of run enter the event.");
        for (int zeros = 0; zeros <= 1030; zeros++) {
            runField(zeros, zeros % 64);
        }
        runField(65535, 63);
        runField(65536, 0);
        runField(65537, 1);
    }

    private static void sixtyFourAndSixtyFive() {
        check.sentence(EDGES, "A run of 64 zeros contributes 0, and a run of 65 contributes 1.");
        runField(63, 63);
        runField(64, 0);
        runField(65, 1);
    }

    private static void runField(int zeros, int want) {
        LastRunLevel x = new LastRunLevel();
        Check.feedZeros(x, zeros);
        x.feed(1);
        Check.feedZeros(x, zeros);
        x.feed(1);
        x.finish();
        check.dueEvents("twice " + zeros + " zeros", x, want * 512 + 1, 32768 + want * 512 + 1);
    }

    private static void lowNineBitsOfLevel() {
        check.sentence(EDGES, "Only the low nine bits of `c` enter the event, in two's complement.");
        for (int c = 1; c <= 1100; c++) {
            levelField(c, c % 512);
            levelField(-c, Math.floorMod(-c, 512));
        }
        for (int bit = 9; bit < 32; bit++) {
            levelField(1 << bit, 0);
            levelField((1 << bit) + 3, 3);
        }
        levelField(Integer.MAX_VALUE, 511);
        levelField(Integer.MIN_VALUE, 0);
        levelField(Integer.MIN_VALUE + 1, 1);
    }

    private static void levelFieldZeroStartsAnEvent() {
        check.sentence(EDGES, "Any non-zero `c` starts an event, even when `c & 511` is 0; for example, `c == 512`"
                + " gives a level field of 0.");
        for (int c : new int[] {512, -512, 1024, 65536, -65536, Integer.MIN_VALUE}) {
            levelField(c, 0);
        }
    }

    private static void negativeLevel() {
        check.sentence(EDGES, "A negative `c` such as -1 gives a level field of 511.");
        levelField(-1, 511);
        levelField(-2, 510);
        levelField(-511, 1);
        levelField(-513, 511);
    }

    private static void levelField(int c, int want) {
        LastRunLevel x = new LastRunLevel();
        x.feed(0);
        check.due("feed(" + c + ")", x.feed(c), 0);
        check.due("feed(" + c + ") again", x.feed(c), 1);
        check.due("feed(" + c + ") twice, finish()", x.finish(), 2);
        check.dueEvents("level " + c, x, 512 + want, 32768 + want);
    }

    private static void packedZeroIsPending() {
        check.sentence(EDGES, "The packed pending value can then be 0 and still counts as pending.");
        LastRunLevel x = new LastRunLevel();
        Check.feedZeros(x, 64);
        check.due("feed(-512) after 64 zeros", x.feed(-512), 0);
        check.due("feed(3) stores it", x.feed(3), 1);
        check.dueEvents("feed(3)", x, 0);

        LastRunLevel full = new State(16, false, 0).make();
        check.due("full, nothing pending: feed(512)", full.feed(512), 16);
        check.due("full, 0 pending: feed(3)", full.feed(3), -1);
        check.due("full, 0 pending: finish()", full.finish(), -1);
    }

    private static void packedZeroExample() {
        check.sentence(EDGES, "On a fresh object, `feed(512)` answers 0, then `finish()` answers 1 and `event(0)`"
                + " answers 32768.");
        LastRunLevel x = new LastRunLevel();
        check.due("feed(512)", x.feed(512), 0);
        check.due("finish()", x.finish(), 1);
        check.due("event(0)", x.event(0), 32768);
    }

    private static void storedByFeedHasNoLastFlag() {
        check.sentence(EDGES, "An event stored by `feed` always has bit 15 clear, so its value lies in 0..32767.");
        for (int zeros = 63; zeros <= 255; zeros += 64) {
            for (int c : NOT_ZERO) {
                LastRunLevel x = new LastRunLevel();
                x.feed(1);
                x.finish();
                Check.feedZeros(x, zeros);
                x.feed(c);
                x.feed(c);
                int want = 63 * 512 + Math.floorMod(c, 512);
                check.dueEvents("after a finish(), " + zeros + " zeros, feed(" + c + ")", x, 32769, want);
            }
        }
    }

    private static void notRefusedWhenFullAndNothingPending() {
        check.sentence(EDGES, "When no event is pending and count is 16, the call is not refused. A pending event is"
                + " created, run becomes 0, and the call answers 16.");
        for (int zeros : new int[] {0, 1, 64}) {
            LastRunLevel x = new State(16, false, zeros).make();
            check.due(zeros + " zeros, feed(5)", x.feed(5), 16);
            check.due("then finish(), as an event is pending", x.finish(), -1);
            check.due("then feed(6)", x.feed(6), -1);
            check.dueEvents("then", x, new State(16, false, zeros).events());
        }
    }

    private static void pendingIsNotVisible() {
        check.sentence(EDGES, "The pending event itself is not visible through `event` or `count` until it is stored.");
        for (State state : State.nothingPending()) {
            LastRunLevel x = state.make();
            x.feed(9);
            check.due(state + " feed(9): count()", x.count(), state.count());
            check.due(state + " feed(9): event(count)", x.event(state.count()), -1);
        }
        LastRunLevel y = new LastRunLevel();
        y.feed(9);
        y.feed(8);
        check.due("once stored: count()", y.count(), 1);
        check.due("once stored: event(0)", y.event(0), 9);
        check.due("the next one: event(1)", y.event(1), -1);
    }

    private static void example() {
        check.sentence("Promise 2, example", "starting fresh, `feed(0)` answers 0 .. `feed(-1)` stores 1029 at"
                + " `events[0]`, makes 511 pending and answers 1.");
        LastRunLevel x = new LastRunLevel();
        check.due("feed(0)", x.feed(0), 0);
        check.due("feed(0)", x.feed(0), 0);
        check.due("feed(5)", x.feed(5), 0);
        check.dueEvents("1029 pending", x);
        check.due("feed(-1)", x.feed(-1), 1);
        check.dueEvents("511 pending", x, 1029);
    }
}
