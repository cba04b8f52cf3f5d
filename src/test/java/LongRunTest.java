/** Promise 2, case A: a run past Integer.MAX_VALUE wraps around, seen by its low six bits. */
public final class LongRunTest {
    private static final Check check = new Check();

    public static void main(String[] args) {
        LastRunLevel x = new LastRunLevel();
        x.feed(7);
        x.finish();
        long zeros = (1L << 31) + 37;
        long wrong = 0;
        for (long i = 0; i < zeros; i++) {
            if (x.feed(0) != 1) {
                wrong++;
            }
        }
        check.due("wrong answers of feed(0)", wrong, 0);
        check.due("feed(3) after the long run", x.feed(3), 1);
        check.due("finish() after the long run", x.finish(), 2);
        check.dueEvents("after the long run", x, 32768 | 7, 32768 | 37 << 9 | 3);
        check.end();
    }
}
