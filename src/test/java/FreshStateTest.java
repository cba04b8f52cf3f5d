/** Promise 1, sentence by sentence. */
public final class FreshStateTest {
    private static final Check check = new Check();
    private static final String PROMISE = "Promise 1";

    public static void main(String[] args) {
        runIsZero();
        nothingPending();
        countIsZero();
        everyEventIsMinusOne();
        constructorNeverThrows();
        check.end();
    }

    private static void runIsZero() {
        check.sentence(PROMISE, "run is 0;");
        LastRunLevel x = new LastRunLevel();
        x.feed(5);
        x.finish();
        check.dueEvents("feed(5), finish()", x, 32768 + 5);
    }

    private static void nothingPending() {
        check.sentence(PROMISE, "no event is pending;");
        LastRunLevel x = new LastRunLevel();
        check.due("finish()", x.finish(), -2);
        check.dueEvents("finish()", x);
        check.due("feed(9), which would store a pending event", new LastRunLevel().feed(9), 0);
    }

    private static void countIsZero() {
        check.sentence(PROMISE, "count is 0, so `count()` answers 0");
        check.due("count()", new LastRunLevel().count(), 0);
    }

    private static void everyEventIsMinusOne() {
        check.sentence(PROMISE, "and `event(i)` answers -1 for every `i`.");
        LastRunLevel x = new LastRunLevel();
        long others = 0;
        int i = Integer.MIN_VALUE;
        do {
            if (x.event(i) != -1) {
                others++;
            }
            i++;
        } while (i != Integer.MIN_VALUE);
        check.due("how many of all i: event(i) != -1", others, 0);
    }

    private static void constructorNeverThrows() {
        check.sentence(PROMISE, "The constructor never throws.");
        LastRunLevel used = new State(16, true, 3).make();
        for (int n = 0; n < 1000; n++) {
            check.dueState("new object " + n, new LastRunLevel(), new State(0, false, 0));
        }
        check.dueState("the used object beside them", used, new State(16, true, 3));
    }
}
