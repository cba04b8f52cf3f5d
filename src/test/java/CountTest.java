/** Promise 5. */
public final class CountTest {
    private static final Check check = new Check();

    public static void main(String[] args) {
        countsCommittedAlone();
        staysAtSixteen();
        refusedCallsDoNotCount();
        changesNothing();
        check.end();
    }

    private static void countsCommittedAlone() {
        LastRunLevel x = new LastRunLevel();
        check.due("count(), fresh", x.count(), 0);
        x.feed(0);
        check.due("count() after a zero", x.count(), 0);
        x.feed(3);
        check.due("count(), one pending", x.count(), 0);
        x.feed(4);
        check.due("count(), one committed and one pending", x.count(), 1);
        x.finish();
        check.due("count() after finish()", x.count(), 2);
    }

    private static void staysAtSixteen() {
        LastRunLevel x = new LastRunLevel();
        for (int fed = 1; fed <= 40; fed++) {
            x.feed(fed);
            check.due("count() after " + fed + " values", x.count(), Math.min(fed - 1, 16));
        }
        x.finish();
        check.due("count() after finish() on a full store", x.count(), 16);
        for (int n = 1; n <= 16; n++) {
            check.due("count() after " + n + " with finish()", Check.finishedAt(n).count(), n);
        }
    }

    private static void refusedCallsDoNotCount() {
        LastRunLevel x = Check.finishedAt(5);
        x.finish();
        x.event(-1);
        x.event(5);
        check.due("count() after refused calls", x.count(), 5);
    }

    private static void changesNothing() {
        LastRunLevel x = new LastRunLevel();
        x.feed(5);
        x.count();
        x.feed(0);
        x.count();
        x.feed(6);
        x.count();
        check.due("finish() after count()", x.finish(), 2);
        x.count();
        check.due("count() makes nothing pending: finish()", x.finish(), -2);
        check.dueEvents("run and pending kept over count()", x, 5, 32768 | 1 << 9 | 6);
    }
}
