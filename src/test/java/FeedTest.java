/** Promise 2. */
public final class FeedTest {
    private static final Check check = new Check();

    public static void main(String[] args) {
        example();
        zeroAnswersCountAndKeepsTheRest();
        zeroIsTakenWhenFull();
        refusedWhenPendingAndFull();
        takenWhenFullAndNothingPending();
        runIsTakenBeforeTheCallAndCleared();
        lowSixBitsOfRun();
        lowNineBitsOfLevel();
        packedZeroIsPending();
        storedByFeedHasNoLastFlag();
        fillsToSixteen();
        check.end();
    }

    private static void example() {
        LastRunLevel x = new LastRunLevel();
        check.due("example feed(0)", x.feed(0), 0);
        check.due("example feed(0)", x.feed(0), 0);
        check.due("example feed(5)", x.feed(5), 0);
        check.dueEvents("example, 1029 pending", x);
        check.due("example feed(-1)", x.feed(-1), 1);
        check.dueEvents("example, 511 pending", x, 1029);
    }

    private static void zeroAnswersCountAndKeepsTheRest() {
        LastRunLevel x = Check.withPendingAfter(3);
        check.due("feed(0) with an event pending", x.feed(0), 3);
        check.dueEvents("after feed(0)", x, 1, 2, 3);
        check.due("finish() after feed(0)", x.finish(), 4);
        check.dueEvents("zeros after a value don't enter its event", x, 1, 2, 3, 32768 | 4);
        check.due("feed(0) with nothing pending", x.feed(0), 4);
        check.due("feed(0) makes nothing pending: finish()", x.finish(), -2);
    }

    private static void zeroIsTakenWhenFull() {
        LastRunLevel x = Check.withPendingAfter(16);
        for (int i = 0; i < 70; i++) {
            check.due("feed(0), full and pending", x.feed(0), 16);
        }
        check.dueEvents("feed(0), full and pending", x, Check.oneTo(16));
        check.due("finish(), still full and pending", x.finish(), -1);

        LastRunLevel y = Check.finishedAt(16);
        check.due("feed(0), full and nothing pending", y.feed(0), 16);
        check.due("finish(), full and nothing pending", y.finish(), -2);
        check.dueEvents("feed(0), full and nothing pending", y, Check.finishedEvents(16));
    }

    private static void refusedWhenPendingAndFull() {
        int[] values = {1, -1, 511, 512, 65536, Integer.MIN_VALUE, Integer.MAX_VALUE};
        LastRunLevel x = Check.withPendingAfter(16);
        for (int c : values) {
            check.due("feed(" + c + "), full and pending", x.feed(c), -1);
            check.dueEvents("after refused feed(" + c + ")", x, Check.oneTo(16));
            check.due("after refused feed(" + c + "): finish()", x.finish(), -1);
            check.due("after refused feed(" + c + "): feed(0)", x.feed(0), 16);
        }
    }

    private static void takenWhenFullAndNothingPending() {
        LastRunLevel x = Check.finishedAt(16);
        check.due("feed(5), full and nothing pending", x.feed(5), 16);
        check.dueEvents("feed(5), full and nothing pending", x, Check.finishedEvents(16));
        check.due("then finish()", x.finish(), -1);
        check.due("then feed(6)", x.feed(6), -1);
        check.dueEvents("at the end", x, Check.finishedEvents(16));

        LastRunLevel y = Check.finishedAt(16);
        check.due("feed(512), full and nothing pending", y.feed(512), 16);
        check.due("then feed(512)", y.feed(512), -1);
    }

    private static void runIsTakenBeforeTheCallAndCleared() {
        LastRunLevel x = new LastRunLevel();
        Check.feedZeros(x, 3);
        x.feed(10);
        x.feed(11);
        Check.feedZeros(x, 1);
        x.feed(12);
        Check.feedZeros(x, 4);
        x.feed(13);
        x.feed(14);
        check.dueEvents("runs 3, 0, 1, 4", x, 3 << 9 | 10, 11, 1 << 9 | 12, 4 << 9 | 13);
    }

    private static void lowSixBitsOfRun() {
        for (int zeros = 0; zeros <= 260; zeros++) {
            LastRunLevel x = new LastRunLevel();
            Check.feedZeros(x, zeros);
            x.feed(1);
            x.feed(1);
            check.dueEvents(zeros + " zeros", x, zeros % 64 * 512 + 1);
        }
    }

    private static void lowNineBitsOfLevel() {
        for (int c = -1100; c <= 1100; c++) {
            if (c != 0) {
                levelField(c, Math.floorMod(c, 512));
            }
        }
        levelField(Integer.MAX_VALUE, 511);
        levelField(Integer.MIN_VALUE, 0);
        levelField(Integer.MIN_VALUE + 1, 1);
        levelField(65536, 0);
        levelField(32768, 0);
        levelField(-32769, 511);
    }

    private static void levelField(int c, int want) {
        LastRunLevel x = new LastRunLevel();
        x.feed(0);
        check.due("feed(" + c + ")", x.feed(c), 0);
        check.due("value after feed(" + c + ")", x.feed(c), 1);
        check.due("finish() after feed(" + c + ")", x.finish(), 2);
        check.dueEvents("level " + c, x, 512 + want, 32768 + want);
    }

    private static void packedZeroIsPending() {
        LastRunLevel x = new LastRunLevel();
        check.due("feed(512)", x.feed(512), 0);
        check.due("finish() after feed(512)", x.finish(), 1);
        check.dueEvents("feed(512), finish()", x, 32768);

        LastRunLevel y = new LastRunLevel();
        Check.feedZeros(y, 64);
        check.due("feed(-512) after 64 zeros", y.feed(-512), 0);
        check.due("feed(3) after feed(-512)", y.feed(3), 1);
        check.dueEvents("64 zeros, feed(-512), feed(3)", y, 0);
    }

    private static void storedByFeedHasNoLastFlag() {
        for (int zeros = 63; zeros <= 255; zeros += 64) {
            LastRunLevel x = new LastRunLevel();
            Check.feedZeros(x, zeros);
            x.feed(-1);
            x.feed(-1);
            check.dueEvents(zeros + " zeros, feed(-1), feed(-1)", x, 32767);
        }
    }

    private static void fillsToSixteen() {
        LastRunLevel x = new LastRunLevel();
        for (int c = 1; c <= 17; c++) {
            check.due("value " + c, x.feed(c), c - 1);
            check.dueEvents("after value " + c, x, Check.oneTo(c - 1));
        }
        check.due("value 18", x.feed(18), -1);
        check.dueEvents("after value 18", x, Check.oneTo(16));
    }
}
