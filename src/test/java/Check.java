import java.util.Arrays;

/** Counts the answers that are not as due; each test's main method ends with end(). */
final class Check {
    private int wrong = 0;
    private int sentences = 0;
    private int lookedAt = 0;

    /** Names the words of the document that every answer looked at from here on belongs to. */
    void sentence(String where, String words) {
        endSentence();
        sentences++;
        lookedAt = 0;
        // Told before its calls, so that it stands above an exception as well as above a wrong answer.
        System.out.println("  " + where + ": " + words);
    }

    void due(String call, long got, long want) {
        holds(call, got == want, " answered " + got + ", due is " + want);
    }

    void holds(String claim, boolean is) {
        holds(claim, is, " does not hold");
    }

    private void holds(String claim, boolean is, String otherwise) {
        lookedAt++;
        if (!is) {
            wrong++;
            System.out.println("    WRONG: " + claim + otherwise);
        }
    }

    /** All committed events, and -1 right after them and at the extremes. */
    void dueEvents(String when, LastRunLevel x, int... want) {
        due(when + ": count()", x.count(), want.length);
        for (int i = 0; i < want.length; i++) {
            due(when + ": event(" + i + ")", x.event(i), want[i]);
        }
        int[] outside = {-1, want.length, want.length + 1, 16, 17, Integer.MIN_VALUE, Integer.MAX_VALUE};
        for (int i : outside) {
            due(when + ": event(" + i + ")", x.event(i), -1);
        }
    }

    /**
     * That x is in the given state, by all that calls can show of it: a feed shows what was pending, the
     * finish after it the run, as far as there is room for them. This uses x up.
     */
    void dueState(String when, LastRunLevel x, State want) {
        dueEvents(when, x, want.events());
        if (want.pendingAndFull()) {
            due(when + ": feed(77)", x.feed(77), -1);
            due(when + ": finish()", x.finish(), -1);
            dueEvents(when + ": feed(77), finish()", x, want.events());
            return;
        }
        int[] events = want.pending() ? with(want.events(), want.pendingEvent()) : want.events();
        due(when + ": feed(77)", x.feed(77), events.length);
        dueEvents(when + ": feed(77)", x, events);
        if (events.length == State.FULL) {
            due(when + ": feed(77), finish()", x.finish(), -1);
        } else {
            due(when + ": feed(77), finish()", x.finish(), events.length + 1);
            events = with(events, State.LAST + want.run() % 64 * 512 + 77);
        }
        dueEvents(when + ": feed(77), finish()", x, events);
    }

    void end() {
        endSentence();
        String verdict = wrong == 0 ? "all answers are as due" : wrong + " answers are not as due";
        System.out.println(sentences + " sentences, " + verdict);
        if (wrong != 0 || sentences == 0) {
            System.exit(1);
        }
    }

    /** A sentence under which nothing was looked at has no test, whatever stands in its method's name. */
    private void endSentence() {
        if (sentences > 0 && lookedAt == 0) {
            wrong++;
            System.out.println("    WRONG: nothing was looked at");
        }
    }

    static int[] with(int[] events, int oneMore) {
        int[] more = Arrays.copyOf(events, events.length + 1);
        more[events.length] = oneMore;
        return more;
    }

    static void feedZeros(LastRunLevel x, int times) {
        for (int i = 0; i < times; i++) {
            x.feed(0);
        }
    }
}
