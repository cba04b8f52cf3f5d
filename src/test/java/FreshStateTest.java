/** Promise 1. */
public final class FreshStateTest {
    private static final Check check = new Check();

    public static void main(String[] args) {
        nothingCommitted();
        nothingPending();
        runIsZero();
        objectsAreApart();
        check.end();
    }

    private static void nothingCommitted() {
        LastRunLevel x = new LastRunLevel();
        check.due("fresh count()", x.count(), 0);
        for (int i = -70; i <= 70; i++) {
            check.due("fresh event(" + i + ")", x.event(i), -1);
        }
        check.dueEvents("fresh", x);
    }

    private static void nothingPending() {
        LastRunLevel x = new LastRunLevel();
        check.due("fresh finish()", x.finish(), -2);
        check.dueEvents("fresh after finish()", x);
        check.due("fresh feed(9)", new LastRunLevel().feed(9), 0);
    }

    private static void runIsZero() {
        LastRunLevel x = new LastRunLevel();
        x.feed(5);
        x.finish();
        check.dueEvents("first value of a fresh object", x, 32768 | 5);
    }

    private static void objectsAreApart() {
        LastRunLevel used = new LastRunLevel();
        used.feed(1);
        used.feed(2);
        used.feed(0);
        LastRunLevel fresh = new LastRunLevel();
        check.dueEvents("beside a used object", fresh);
        check.due("beside a used object: finish()", fresh.finish(), -2);
        fresh.feed(7);
        fresh.finish();
        check.dueEvents("beside a used object", fresh, 32768 | 7);
        check.dueEvents("used object", used, 1);
    }
}
