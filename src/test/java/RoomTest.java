import com.sun.management.ThreadMXBean;
import java.lang.management.ManagementFactory;
import java.util.function.ToIntFunction;

/** The room that all calls of one run live in: as much as 7.3 million ints take, at most. */
final class RoomTest {
    private static final long MOST_BYTES = 7_300_000L * 4;

    private final Checks checks;
    private final ThreadMXBean bean = (ThreadMXBean) ManagementFactory.getThreadMXBean();
    private final long thread = Thread.currentThread().getId();

    private RoomTest(Checks checks) {
        this.checks = checks;
    }

    static void run(Checks checks) {
        RoomTest test = new RoomTest(checks);
        test.taken("insert", x -> x.insert(0, 0, 0));
        test.taken("clear", Texts::clear);
        test.taken("hearAll", x -> x.hearAll(1) + x.undo());
        test.taken("letter", x -> x.letter(3, 0));
        test.taken("inTheEnd", x -> x.inTheEnd(1, 0));
        test.taken("both", x -> x.both(3));
        test.taken("wouldSend", x -> x.wouldSend(1, 1));
        test.taken("fault", x -> x.fault(0));
        test.taken("play", Texts::play);
    }

    /** A full log, rows that are full, a full text of commands; then one call as long as it goes. */
    private long bytesOf(ToIntFunction<Texts> call) {
        long before = bean.getThreadAllocatedBytes(thread);
        Texts x = new Texts();
        for (int i = 0; i < 60; i++) {
            int done = i % 2 == 0 ? x.insert(0, 0, 1) : x.delete(0, 0);
            done += x.send(0) + x.hear(0);
        }
        for (int i = 0; i < 18; i++) {
            x.insert(i / 6, 0, 2);
        }
        for (int i = 0; i < 60; i++) {
            x.type("h1;".charAt(i % 3));
        }
        while (x.calls() < Texts.MOST_CALLS - 1) {
            call.applyAsInt(x);
        }
        return bean.getThreadAllocatedBytes(thread) - before;
    }

    private void taken(String name, ToIntFunction<Texts> call) {
        bytesOf(call);
        long bytes = bytesOf(call);
        checks.holds("a run with much " + name + " takes " + bytes + " bytes",
                bytes <= MOST_BYTES);
    }
}
