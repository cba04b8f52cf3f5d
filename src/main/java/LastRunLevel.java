/** Builds (last, run, level) events from a stream of values and keeps up to 16 of them packed. */
public final class LastRunLevel {
    private static final int CAPACITY = 16;

    private static final int LAST_FLAG = 1 << 15;
    private static final int RUN_MASK = 63;
    private static final int RUN_SHIFT = 9;
    private static final int LEVEL_MASK = 511;

    private static final int NO_EVENT = -1;
    private static final int STORE_FULL = -1;
    private static final int NOTHING_PENDING = -2;

    private final char[] events = new char[CAPACITY];
    private int committed = 0;
    private int run = 0;

    // A packed event may be 0, so its value can't tell whether there is one.
    private boolean hasPending = false;
    private int pending = 0;

    public LastRunLevel() {
    }

    public int feed(int c) {
        if (c == 0) {
            run++;
            return committed;
        }
        if (hasPending) {
            if (committed >= CAPACITY) {
                return STORE_FULL;
            }
            commit(pending);
        }
        // Nothing pending needs no room in the store, so a full one doesn't refuse here.
        pending = (run & RUN_MASK) << RUN_SHIFT | (c & LEVEL_MASK);
        hasPending = true;
        run = 0;
        return committed;
    }

    public int finish() {
        if (!hasPending) {
            return NOTHING_PENDING;
        }
        if (committed >= CAPACITY) {
            return STORE_FULL;
        }
        commit(pending | LAST_FLAG);
        hasPending = false;
        run = 0;
        return committed;
    }

    public int event(int i) {
        if (i < 0 || i >= committed) {
            return NO_EVENT;
        }
        return events[i];
    }

    public int count() {
        return committed;
    }

    // Both callers have looked for room first, because they must refuse before anything changes.
    private void commit(int packed) {
        events[committed] = (char) packed;
        committed++;
    }
}
