/** The sentences of 'What it is', before the promises. */
public final class WhatItIsTest {
    private static final Check check = new Check();
    private static final String WHAT = "What it is";
    private static final int[] ARGUMENTS = {
        Integer.MIN_VALUE, Integer.MIN_VALUE + 1, -65536, -513, -512, -511, -17, -16, -1,
        0, 1, 15, 16, 17, 63, 64, 511, 512, 513, 32768, 65535, 65536, Integer.MAX_VALUE - 1, Integer.MAX_VALUE
    };

    public static void main(String[] args) {
        runIsTheZerosSince();
        atMostOnePending();
        packedEvent();
        noMethodThrows();
        refusedCallChangesNothing();
        atMostSixteenByFeed();
        atMostSixteenByFinish();
        check.end();
    }

    private static void runIsTheZerosSince() {
        check.sentence(WHAT, "run: the number of zeros fed since the last accepted non-zero value or successful"
                + " `finish()`; 0 at first");
        LastRunLevel x = new LastRunLevel();
        x.feed(1);
        Check.feedZeros(x, 2);
        x.feed(2);
        Check.feedZeros(x, 3);
        x.finish();
        Check.feedZeros(x, 4);
        x.finish();
        Check.feedZeros(x, 1);
        x.feed(3);
        x.finish();
        check.dueEvents("runs 0, 2, 5", x, 1, 32768 + 2 * 512 + 2, 32768 + 5 * 512 + 3);
    }

    private static void atMostOnePending() {
        check.sentence(WHAT, "at most one pending event: none at first");
        LastRunLevel x = new LastRunLevel();
        check.due("finish() at first", x.finish(), -2);
        x.feed(1);
        x.feed(2);
        check.due("finish() after two values", x.finish(), 2);
        check.due("finish() again", x.finish(), -2);
        check.dueEvents("both values, once each", x, 1, 32768 + 2);
    }

    private static void packedEvent() {
        check.sentence(WHAT, "Bit 15 is the last flag, bits 9 to 14 hold the low six bits of the run, and bits 0"
                + " to 8 hold the low nine bits of the level value `c`.");
        for (int bit = 0; bit < 9; bit++) {
            packs(0, 1 << bit, 1 << bit);
        }
        for (int bit = 0; bit < 6; bit++) {
            packs(1 << bit, 512, 1 << bit + 9);
        }
        packs(63, 511, 32767);
        packs(0, 512, 0);
    }

    private static void packs(int run, int c, int want) {
        LastRunLevel x = new LastRunLevel();
        Check.feedZeros(x, run);
        x.feed(c);
        Check.feedZeros(x, run);
        x.feed(c);
        x.finish();
        check.dueEvents("twice " + run + " zeros and feed(" + c + "), finish()", x, want, 32768 + want);
    }

    private static void noMethodThrows() {
        check.sentence(WHAT, "No method ever throws, and every `int` is a legal argument.");
        for (State state : State.all()) {
            for (int argument : ARGUMENTS) {
                throwsNothing(state + " feed(" + argument + ")", () -> state.make().feed(argument));
                throwsNothing(state + " event(" + argument + ")", () -> state.make().event(argument));
            }
            throwsNothing(state + " finish()", () -> state.make().finish());
            throwsNothing(state + " count()", () -> state.make().count());
        }
    }

    private static void throwsNothing(String call, Runnable made) {
        try {
            made.run();
            check.holds(call + " throws nothing", true);
        } catch (RuntimeException | Error thrown) {
            check.holds(call + " throws nothing, but " + thrown, false);
        }
    }

    private static void refusedCallChangesNothing() {
        check.sentence(WHAT, "A refused call changes nothing.");
        for (State state : State.pendingWhenFull()) {
            LastRunLevel x = state.make();
            check.due(state + " feed(9)", x.feed(9), -1);
            check.due(state + " finish()", x.finish(), -1);
            check.dueState(state + " after refused feed(9), finish()", x, state);
        }
        for (State state : State.nothingPending()) {
            LastRunLevel x = state.make();
            check.due(state + " finish()", x.finish(), -2);
            check.dueState(state + " after refused finish()", x, state);
        }
        for (State state : State.all()) {
            LastRunLevel x = state.make();
            check.due(state + " event(-1)", x.event(-1), -1);
            check.due(state + " event(count)", x.event(state.count()), -1);
            check.dueState(state + " after event(-1), event(count)", x, state);
        }
    }

    private static void atMostSixteenByFeed() {
        check.sentence(WHAT, "The store holds at most 16 committed events. (filled by feed)");
        LastRunLevel x = new LastRunLevel();
        int[] want = {};
        for (int c = 1; c <= 40; c++) {
            int answer = c <= 17 ? c - 1 : -1;
            check.due("value " + c, x.feed(c), answer);
            if (c > 1 && c <= 17) {
                want = Check.with(want, c - 1);
            }
            check.dueEvents("after value " + c, x, want);
        }
    }

    private static void atMostSixteenByFinish() {
        check.sentence(WHAT, "The store holds at most 16 committed events. (filled by finish)");
        LastRunLevel x = new LastRunLevel();
        int[] want = {};
        for (int c = 1; c <= 40; c++) {
            x.feed(c);
            check.due("finish() " + c, x.finish(), c <= 16 ? c : -1);
            if (c <= 16) {
                want = Check.with(want, 32768 + c);
            }
            check.dueEvents("after finish() " + c, x, want);
        }
    }
}
