import java.util.ArrayList;
import java.util.List;

/** A state to start a test from: so many events committed, one pending or none, and so many zeros fed since. */
record State(int count, boolean pending, int run) {
    static final int FULL = 16;
    static final int LAST = 32768;

    /** Every count, with an event pending and without, each with some runs. */
    static List<State> all() {
        List<State> states = new ArrayList<>();
        states.addAll(nothingPending());
        states.addAll(pendingWithRoom());
        states.addAll(pendingWhenFull());
        return states;
    }

    static List<State> nothingPending() {
        return upTo(FULL, false);
    }

    static List<State> pendingWithRoom() {
        return upTo(FULL - 1, true);
    }

    static List<State> pendingWhenFull() {
        return withRuns(FULL, true);
    }

    private static List<State> upTo(int most, boolean pending) {
        List<State> states = new ArrayList<>();
        for (int count = 0; count <= most; count++) {
            states.addAll(withRuns(count, pending));
        }
        return states;
    }

    private static List<State> withRuns(int count, boolean pending) {
        List<State> states = new ArrayList<>();
        for (int run : new int[] {0, 3, 63, 64}) {
            states.add(new State(count, pending, run));
        }
        return states;
    }

    /** A new object in this state; with nothing pending, the newest committed event is one of finish. */
    LastRunLevel make() {
        LastRunLevel x = new LastRunLevel();
        int values = pending ? count + 1 : count;
        for (int k = 0; k < values; k++) {
            Check.feedZeros(x, k);
            x.feed(100 + k);
        }
        if (!pending && count > 0) {
            x.finish();
        }
        Check.feedZeros(x, run);
        return x;
    }

    int[] events() {
        int[] events = new int[count];
        for (int k = 0; k < count; k++) {
            events[k] = packed(k);
        }
        if (!pending && count > 0) {
            events[count - 1] += LAST;
        }
        return events;
    }

    /** What feed would store; finish adds LAST to it. */
    int pendingEvent() {
        return packed(count);
    }

    boolean pendingAndFull() {
        return pending && count == FULL;
    }

    State withRun(int zeros) {
        return new State(count, pending, zeros);
    }

    private static int packed(int k) {
        return k * 512 + 100 + k;
    }
}
