/** Counts the answers that are not as due; each test's main method ends with end(). */
final class Check {
    private int wrong = 0;

    void due(String call, long got, long want) {
        if (got != want) {
            wrong++;
            System.out.println(call + " answered " + got + ", due is " + want);
        }
    }

    void holds(String claim, boolean is) {
        if (!is) {
            wrong++;
            System.out.println("does not hold: " + claim);
        }
    }

    /** All committed events, and -1 right after them and at the extremes. */
    void dueEvents(String when, LastRunLevel x, int... want) {
        due(when + ": count()", x.count(), want.length);
        for (int i = 0; i < want.length; i++) {
            due(when + ": event(" + i + ")", x.event(i), want[i]);
        }
        int[] outside = {-1, want.length, want.length + 1, 16, 17, Integer.MIN_VALUE, Integer.MAX_VALUE};
        for (int i : outside) {
            due(when + ": event(" + i + ")", x.event(i), -1);
        }
    }

    void end() {
        System.out.println(wrong == 0 ? "all answers are as due" : wrong + " answers are not as due");
        if (wrong != 0) {
            System.exit(1);
        }
    }

    static void feedZeros(LastRunLevel x, int times) {
        for (int i = 0; i < times; i++) {
            x.feed(0);
        }
    }

    /** A new object with the events 1, 2, .. n committed by feed and n + 1 pending. */
    static LastRunLevel withPendingAfter(int n) {
        LastRunLevel x = new LastRunLevel();
        for (int c = 1; c <= n + 1; c++) {
            x.feed(c);
        }
        return x;
    }

    /** A new object with n events committed, the last of them by finish, and nothing pending. */
    static LastRunLevel finishedAt(int n) {
        LastRunLevel x = withPendingAfter(n - 1);
        x.finish();
        return x;
    }

    /** The events of finishedAt(n). */
    static int[] finishedEvents(int n) {
        int[] events = oneTo(n);
        events[n - 1] |= 32768;
        return events;
    }

    static int[] oneTo(int n) {
        int[] events = new int[n];
        for (int i = 0; i < n; i++) {
            events[i] = i + 1;
        }
        return events;
    }
}
