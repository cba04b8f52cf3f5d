/** Promise 3. */
public final class FinishTest {
    private static final Check check = new Check();

    public static void main(String[] args) {
        example();
        refusedWhenNothingPendingKeepsRun();
        refusedWhenFull();
        nothingPendingComesBeforeFull();
        storesWithLastFlag();
        clearsRun();
        keepsEarlierEvents();
        goesOnAfterwards();
        fillsToSixteen();
        check.end();
    }

    private static void example() {
        LastRunLevel x = new LastRunLevel();
        x.feed(0);
        x.feed(0);
        x.feed(5);
        x.feed(-1);
        check.due("example finish()", x.finish(), 2);
        check.dueEvents("example", x, 1029, 33279);
        check.due("example, a further finish()", x.finish(), -2);
        check.dueEvents("example, a further finish()", x, 1029, 33279);
    }

    private static void refusedWhenNothingPendingKeepsRun() {
        LastRunLevel x = new LastRunLevel();
        Check.feedZeros(x, 2);
        check.due("finish() after two zeros", x.finish(), -2);
        x.feed(0);
        check.due("finish() after three zeros", x.finish(), -2);
        check.dueEvents("after two refused finish()", x);
        x.feed(5);
        x.finish();
        check.dueEvents("run kept over refused finish()", x, 32768 | 3 << 9 | 5);
        Check.feedZeros(x, 1);
        check.due("finish() with a run and nothing pending", x.finish(), -2);
        x.feed(6);
        x.feed(7);
        check.dueEvents("run kept over refused finish()", x, 32768 | 3 << 9 | 5, 1 << 9 | 6);
    }

    private static void refusedWhenFull() {
        LastRunLevel x = Check.withPendingAfter(16);
        for (int i = 0; i < 3; i++) {
            check.due("finish(), full and pending", x.finish(), -1);
            check.dueEvents("finish(), full and pending", x, Check.oneTo(16));
            check.due("feed(4), still full and pending", x.feed(4), -1);
        }
    }

    private static void nothingPendingComesBeforeFull() {
        LastRunLevel x = Check.finishedAt(16);
        check.due("finish(), full and nothing pending", x.finish(), -2);
        x.feed(0);
        check.due("finish(), full, a run and nothing pending", x.finish(), -2);
        check.dueEvents("finish(), full and nothing pending", x, Check.finishedEvents(16));
    }

    private static void storesWithLastFlag() {
        int[] zeros = {0, 1, 63, 64, 65, 127, 128};
        int[] values = {1, 511, 512, -1, -512, 32768, Integer.MIN_VALUE, Integer.MAX_VALUE};
        for (int run : zeros) {
            for (int c : values) {
                LastRunLevel x = new LastRunLevel();
                Check.feedZeros(x, run);
                x.feed(c);
                check.due("finish()", x.finish(), 1);
                int want = 32768 + run % 64 * 512 + Math.floorMod(c, 512);
                check.dueEvents(run + " zeros, feed(" + c + "), finish()", x, want);
            }
        }
    }

    private static void clearsRun() {
        LastRunLevel x = new LastRunLevel();
        x.feed(5);
        Check.feedZeros(x, 3);
        check.due("finish() with zeros after the value", x.finish(), 1);
        x.feed(7);
        x.finish();
        check.dueEvents("run cleared by finish()", x, 32768 | 5, 32768 | 7);
    }

    private static void keepsEarlierEvents() {
        LastRunLevel x = Check.withPendingAfter(9);
        check.due("finish() as the tenth", x.finish(), 10);
        check.dueEvents("finish() as the tenth", x, 1, 2, 3, 4, 5, 6, 7, 8, 9, 32768 | 10);
    }

    private static void goesOnAfterwards() {
        LastRunLevel x = new LastRunLevel();
        x.feed(1);
        x.finish();
        check.due("value after finish() only becomes pending", x.feed(2), 1);
        check.dueEvents("value after finish()", x, 32769);
        check.due("second value after finish()", x.feed(3), 2);
        check.due("second finish()", x.finish(), 3);
        check.dueEvents("second finish()", x, 32769, 2, 32768 | 3);
    }

    private static void fillsToSixteen() {
        LastRunLevel x = new LastRunLevel();
        int[] want = new int[16];
        for (int n = 1; n <= 16; n++) {
            check.due("value " + n, x.feed(n), n - 1);
            check.due("finish() " + n, x.finish(), n);
            want[n - 1] = 32768 + n;
        }
        check.dueEvents("sixteen times feed and finish", x, want);
    }
}
