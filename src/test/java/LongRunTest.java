/** The sentences of promise 2 that need a run past Integer.MAX_VALUE, seen by its low six bits. */
public final class LongRunTest {
    private static final Check check = new Check();

    public static void main(String[] args) {
        LastRunLevel greatest = new LastRunLevel();
        LastRunLevel wrapped = new LastRunLevel();
        LastRunLevel negative = new LastRunLevel();
        LastRunLevel full = new State(16, true, 0).make();

        check.sentence("Promise 2, case A", "This is never refused. (in the longest run, full store or empty)");
        long wrong = 0;
        for (int run = 0; run != Integer.MAX_VALUE; run++) {
            // Not ||, because a wrong answer of one object must not shorten the runs of the others.
            if (greatest.feed(0) != 0 | wrapped.feed(0) != 0 | negative.feed(0) != 0 | full.feed(0) != 16) {
                wrong++;
            }
        }
        check.due("how often feed(0) did not answer the count", wrong, 0);

        check.sentence("Promise 2, case A", "if run is `Integer.MAX_VALUE`, it becomes `Integer.MIN_VALUE`.");
        dueRun("run Integer.MAX_VALUE", greatest, 63);
        check.due("feed(0) at Integer.MAX_VALUE", wrapped.feed(0), 0);
        dueRun("run Integer.MIN_VALUE", wrapped, 0);
        check.due("feed(0) at Integer.MAX_VALUE, full and pending", full.feed(0), 16);
        check.dueState("after it, full and pending", full, new State(16, true, 0));

        check.sentence("Promise 2, edges of case C", "If run has wrapped around to a negative value, its low six bits"
                + " in two's complement are used.");
        Check.feedZeros(negative, 1 + 37);
        dueRun("run Integer.MIN_VALUE + 37", negative, 37);
        check.end();
    }

    /** The zeros belong to the first event alone, so the second shows that the long run is over. */
    private static void dueRun(String when, LastRunLevel x, int low) {
        check.due(when + ": feed(3)", x.feed(3), 0);
        check.due(when + ": feed(4)", x.feed(4), 1);
        check.due(when + ": finish()", x.finish(), 2);
        check.dueEvents(when, x, low * 512 + 3, 32768 + 4);
    }
}
