/** Promise 4. */
public final class EventTest {
    private static final Check check = new Check();

    public static void main(String[] args) {
        outsideAnswersMinusOne();
        insideAnswersWhatWasStored();
        pendingIsNotSeen();
        changesNothing();
        check.end();
    }

    private static void outsideAnswersMinusOne() {
        int[] far = {Integer.MIN_VALUE, Integer.MIN_VALUE + 1, -65536, 65536, 1 << 30, Integer.MAX_VALUE};
        for (int n = 0; n <= 16; n++) {
            LastRunLevel x = Check.withPendingAfter(n);
            for (int i = -40; i <= 70; i++) {
                int want = i >= 0 && i < n ? i + 1 : -1;
                check.due("event(" + i + ") of " + n, x.event(i), want);
            }
            for (int i : far) {
                check.due("event(" + i + ") of " + n, x.event(i), -1);
            }
        }
    }

    private static void insideAnswersWhatWasStored() {
        LastRunLevel x = new LastRunLevel();
        x.feed(512);
        Check.feedZeros(x, 63);
        x.feed(511);
        x.feed(512);
        x.finish();
        Check.feedZeros(x, 63);
        x.feed(-1);
        x.finish();
        check.dueEvents("least and greatest of both kinds", x, 0, 32767, 32768, 65535);
    }

    private static void pendingIsNotSeen() {
        LastRunLevel x = new LastRunLevel();
        x.feed(5);
        check.due("event(0), one pending", x.event(0), -1);
        x.feed(6);
        check.due("event(0)", x.event(0), 5);
        check.due("event(1), one pending", x.event(1), -1);
    }

    private static void changesNothing() {
        LastRunLevel x = new LastRunLevel();
        x.feed(5);
        x.feed(6);
        Check.feedZeros(x, 2);
        for (int i = -3; i <= 20; i++) {
            x.event(i);
        }
        check.dueEvents("after reading", x, 5);
        check.due("feed(7) after reading", x.feed(7), 2);
        x.event(0);
        check.due("finish() after reading", x.finish(), 3);
        check.dueEvents("run and pending kept over reading", x, 5, 6, 32768 | 2 << 9 | 7);
        x.event(2);
        check.due("reading makes nothing pending: finish()", x.finish(), -2);
    }
}
