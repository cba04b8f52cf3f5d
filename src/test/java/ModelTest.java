import java.util.ArrayList;
import java.util.List;

/** Promises 1 to 5 together: many runs of calls against a second, plainer writing of the document. */
public final class ModelTest {
    private static final Check check = new Check();
    private static final int FINISH = 1;
    private static final int[] FED = {0, 5, -1, 512};
    private static final int DEPTH = 6;

    /** The document's state and rules, with every event held in fields until it is read. */
    private static final class Model {
        private record Event(boolean last, int run, int level) {
            int packed() {
                return (last ? 32768 : 0) + Math.floorMod(run, 64) * 512 + Math.floorMod(level, 512);
            }
        }

        private final List<Event> events = new ArrayList<>();
        private Event pending = null;
        private int run = 0;

        int feed(int c) {
            if (c == 0) {
                run++;
            } else if (pending != null && events.size() == 16) {
                return -1;
            } else {
                if (pending != null) {
                    events.add(pending);
                }
                pending = new Event(false, run, c);
                run = 0;
            }
            return events.size();
        }

        int finish() {
            if (pending == null) {
                return -2;
            }
            if (events.size() == 16) {
                return -1;
            }
            events.add(new Event(true, pending.run(), pending.level()));
            pending = null;
            run = 0;
            return events.size();
        }

        int[] packed() {
            return events.stream().mapToInt(Event::packed).toArray();
        }
    }

    public static void main(String[] args) {
        everyShortRun();
        longRuns();
        check.end();
    }

    /** Every run of DEPTH calls, from a fresh object and from ones whose store is full or nearly so. */
    private static void everyShortRun() {
        check.sentence("Promises 1 to 5", "every short run of calls");
        int kinds = FED.length + FINISH;
        int runs = 1;
        for (int i = 0; i < DEPTH; i++) {
            runs *= kinds;
        }
        int[] starts = {0, 13, 14, 15, 16};
        for (int start : starts) {
            for (int code = 0; code < runs; code++) {
                shortRun(start, code, kinds);
            }
        }
    }

    private static void shortRun(int start, int code, int kinds) {
        LastRunLevel x = new LastRunLevel();
        Model model = new Model();
        for (int i = 1; i <= start; i++) {
            x.feed(i);
            model.feed(i);
            x.finish();
            model.finish();
        }
        int rest = code;
        for (int step = 0; step < DEPTH; step++) {
            int kind = rest % kinds;
            rest /= kinds;
            String when = "start " + start + ", run " + code + ", step " + step;
            if (kind < FED.length) {
                check.due(when + ": feed(" + FED[kind] + ")", x.feed(FED[kind]), model.feed(FED[kind]));
            } else {
                check.due(when + ": finish()", x.finish(), model.finish());
            }
        }
        check.dueEvents("start " + start + ", run " + code, x, model.packed());
    }

    /** Long mixed runs; the numbers come from a fixed sequence, so every session sees the same ones. */
    private static void longRuns() {
        check.sentence("Promises 1 to 5", "long mixed runs of calls");
        long seed = 1;
        for (int object = 0; object < 300; object++) {
            LastRunLevel x = new LastRunLevel();
            Model model = new Model();
            int finishEvery = 2 + object % 17;
            int zerosOf16 = object % 16;
            for (int step = 0; step < 400; step++) {
                seed = seed * 6364136223846793005L + 1442695040888963407L;
                int drawn = (int) (seed >>> 32);
                int choice = (int) (seed >>> 20) & 1023;
                String when = "object " + object + ", step " + step;
                if (choice % finishEvery == 0 && choice / 32 % 4 == 0) {
                    check.due(when + ": finish()", x.finish(), model.finish());
                } else {
                    int c = choice % 16 < zerosOf16 ? 0 : drawn;
                    check.due(when + ": feed(" + c + ")", x.feed(c), model.feed(c));
                }
                check.dueEvents(when, x, model.packed());
            }
        }
    }
}
