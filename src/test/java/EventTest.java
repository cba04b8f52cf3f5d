/** Promise 4, sentence by sentence. */
public final class EventTest {
    private static final Check check = new Check();
    private static final String PROMISE = "Promise 4";

    public static void main(String[] args) {
        tooSmall();
        tooLarge();
        atCountAndOneBelow();
        everyWhenEmpty();
        extremesWhateverCount();
        firstAndLastOfFull();
        leastAndGreatest();
        exactlyAsStoredByFeed();
        exactlyAsStoredByFinish();
        stateIsUnchanged();
        check.end();
    }

    private static void tooSmall() {
        check.sentence(PROMISE, "If `i < 0` .. it answers -1.");
        for (State state : State.all()) {
            for (int i : new int[] {-1, -2, -15, -16, -17, -32768, -65536}) {
                check.due(state + " event(" + i + ")", state.make().event(i), -1);
            }
        }
    }

    private static void tooLarge() {
        check.sentence(PROMISE, "If .. `i >= count`, it answers -1.");
        for (State state : State.all()) {
            LastRunLevel x = state.make();
            for (int i = state.count(); i <= 70; i++) {
                check.due(state + " event(" + i + ")", x.event(i), -1);
            }
            check.due(state + " event(65536)", x.event(65536), -1);
        }
    }

    private static void atCountAndOneBelow() {
        check.sentence(PROMISE, "`i >= count` (at count and one below it)");
        for (State state : State.all()) {
            LastRunLevel x = state.make();
            int count = state.count();
            check.due(state + " event(count)", x.event(count), -1);
            if (count > 0) {
                check.due(state + " event(count - 1)", x.event(count - 1), state.events()[count - 1]);
            }
        }
    }

    private static void everyWhenEmpty() {
        check.sentence(PROMISE, "So every `i` answers -1 when count is 0");
        for (State empty : new State[] {new State(0, false, 0), new State(0, false, 3), new State(0, true, 3)}) {
            LastRunLevel x = empty.make();
            for (int i = -70; i <= 70; i++) {
                check.due(empty + " event(" + i + ")", x.event(i), -1);
            }
        }
    }

    private static void extremesWhateverCount() {
        check.sentence(PROMISE, "`Integer.MIN_VALUE` and `Integer.MAX_VALUE` answer -1 whatever count is.");
        for (State state : State.all()) {
            LastRunLevel x = state.make();
            check.due(state + " event(Integer.MIN_VALUE)", x.event(Integer.MIN_VALUE), -1);
            check.due(state + " event(Integer.MAX_VALUE)", x.event(Integer.MAX_VALUE), -1);
        }
    }

    private static void firstAndLastOfFull() {
        check.sentence(PROMISE, "Otherwise, it answers `events[i]` (the first and the last of a full store)");
        LastRunLevel x = new LastRunLevel();
        for (int c = 1; c <= 17; c++) {
            x.feed(c);
        }
        check.due("event(0)", x.event(0), 1);
        check.due("event(15)", x.event(15), 16);
        check.due("event(16), the pending one", x.event(16), -1);
        LastRunLevel y = new LastRunLevel();
        for (int c = 1; c <= 16; c++) {
            y.feed(c);
            y.finish();
        }
        check.due("event(0), stored by finish()", y.event(0), 32768 + 1);
        check.due("event(15), stored by finish()", y.event(15), 32768 + 16);
    }

    private static void leastAndGreatest() {
        check.sentence(PROMISE, "as a non-negative `int` in 0..65535");
        LastRunLevel x = new LastRunLevel();
        x.feed(512);
        Check.feedZeros(x, 63);
        x.feed(511);
        x.feed(512);
        x.finish();
        Check.feedZeros(x, 63);
        x.feed(-1);
        x.finish();
        check.dueEvents("least and greatest of feed and of finish", x, 0, 32767, 32768, 65535);
    }

    private static void exactlyAsStoredByFeed() {
        check.sentence(PROMISE, "This is the value exactly as stored by `feed`");
        for (int level = 1; level <= 512; level++) {
            for (int run : new int[] {0, 1, 31, 32, 63}) {
                LastRunLevel x = new LastRunLevel();
                Check.feedZeros(x, run);
                x.feed(level);
                x.feed(1);
                check.due(run + " zeros, feed(" + level + "), feed(1): event(0)", x.event(0), run * 512 + level % 512);
            }
        }
    }

    private static void exactlyAsStoredByFinish() {
        check.sentence(PROMISE, "or `finish`.");
        for (int level = 1; level <= 512; level++) {
            for (int run : new int[] {0, 1, 31, 32, 63}) {
                LastRunLevel x = new LastRunLevel();
                Check.feedZeros(x, run);
                x.feed(level);
                x.finish();
                int want = 32768 + run * 512 + level % 512;
                check.due(run + " zeros, feed(" + level + "), finish(): event(0)", x.event(0), want);
            }
        }
    }

    private static void stateIsUnchanged() {
        check.sentence(PROMISE, "The state is unchanged in every case.");
        int[] indices = {Integer.MIN_VALUE, -1, 0, 7, 15, 16, 17, Integer.MAX_VALUE};
        for (State state : State.all()) {
            for (int i : indices) {
                LastRunLevel x = state.make();
                x.event(i);
                check.dueState(state + " after event(" + i + ")", x, state);
            }
        }
    }
}
