import com.sun.management.ThreadMXBean;
import java.lang.management.ManagementFactory;

/**
 * The dearest runs of 512 calls stay far below the room that there is, some 600,000 objects and 7.3 million
 * fields and elements: an object takes 16 bytes at least, an element one, so that a run that made no more
 * than a million bytes made fewer than either.
 */
public final class SnowmeltStreamsRoomTest {
    private static final int MOST_CALLS = 512;
    private static final long MOST_BYTES = 1_000_000;
    private static final ThreadMXBean THREADS = (ThreadMXBean) ManagementFactory.getThreadMXBean();
    private static int wrong = 0;

    private interface Run {
        /** Makes an object, and as many calls on it as an object is used for. */
        void play(Calls calls);
    }

    /** An object with the number of calls that are left to it. */
    private static final class Calls {
        final SnowmeltStreams streams = new SnowmeltStreams();
        int left = MOST_CALLS;

        boolean remain(int count) {
            left -= count;
            return left >= 0;
        }

        void fill(int first, int step) {
            for (int i = 0; i < 120; i++) {
                remain(1);
                streams.append(i % 3, i == 0 ? first : Math.min(999, i * step), i % 6, 1);
            }
        }

        void pass(int source) {
            remain(2);
            streams.read(source);
            streams.take(source);
        }
    }

    /** Each event takes eight results back and emits eight; then one snapshot and one failure after another. */
    private static void mendedWindows(Calls calls) {
        calls.remain(3);
        calls.streams.job(SnowmeltStreams.SLIDE, 200, 25, 200, 200, false);
        calls.streams.idle(1, true);
        calls.streams.idle(2, true);
        calls.fill(399, 1);
        for (int i = 0; i < 120; i++) {
            calls.pass(i % 3);
        }
        while (calls.remain(2)) {
            calls.streams.barrier();
            calls.streams.fail();
        }
    }

    /** Each event makes eight windows of its own; then as many aligned snapshots as there is time for. */
    private static void manyWindows(Calls calls) {
        calls.remain(1);
        calls.streams.job(SnowmeltStreams.SLIDE, 8, 1, 0, 200, true);
        calls.fill(7, 8);
        for (int i = 0; i < 120; i++) {
            calls.pass(i % 3);
        }
        while (calls.remain(5)) {
            calls.streams.barrier();
            calls.streams.take(0);
            calls.streams.take(1);
            calls.streams.take(2);
            calls.streams.confirm();
        }
    }

    /** The same events are taken again after each failure. */
    private static void takenAgain(Calls calls) {
        calls.remain(1);
        calls.streams.job(SnowmeltStreams.GAP, 8, 1, 200, 200, false);
        calls.fill(200, 7);
        while (calls.remain(61)) {
            for (int i = 0; i < 30; i++) {
                calls.streams.read(i % 3);
                calls.streams.take(i % 3);
            }
            calls.streams.fail();
        }
    }

    /** The questions that find their answer from all that was taken. */
    private static void questions(Calls calls) {
        calls.remain(1);
        calls.streams.job(SnowmeltStreams.GAP, 8, 1, 200, 200, false);
        calls.fill(0, 7);
        for (int i = 0; i < 120; i++) {
            calls.pass(i % 3);
        }
        calls.remain(2);
        calls.streams.barrier();
        calls.streams.confirm();
        while (calls.remain(5)) {
            calls.streams.resultAnew(0, 0, 1);
            calls.streams.result(0, 0, 1);
            calls.streams.pairsAnew();
            calls.streams.sumAt(0, 0);
            calls.streams.open(0);
        }
    }

    private static void refusedCalls(Calls calls) {
        while (calls.remain(1)) {
            try {
                calls.streams.take(0);
                throw new AssertionError("an empty channel was taken from");
            } catch (IllegalStateException e) {
                // It is due.
            }
        }
    }

    private static void measure(String name, Run run) {
        // The first time the machine makes objects of its own for the classes that it loads.
        run.play(new Calls());
        long before = THREADS.getCurrentThreadAllocatedBytes();
        run.play(new Calls());
        long bytes = THREADS.getCurrentThreadAllocatedBytes() - before;
        if (bytes > MOST_BYTES) {
            wrong++;
            System.out.println(name + ": " + bytes + " bytes, at most " + MOST_BYTES + " are due");
        }
    }

    public static void main(String[] args) {
        measure("mended windows", SnowmeltStreamsRoomTest::mendedWindows);
        measure("many windows", SnowmeltStreamsRoomTest::manyWindows);
        measure("taken again", SnowmeltStreamsRoomTest::takenAgain);
        measure("questions", SnowmeltStreamsRoomTest::questions);
        measure("refused calls", SnowmeltStreamsRoomTest::refusedCalls);
        System.out.println(wrong == 0 ? "the dearest runs stay within the room" : wrong + " runs are too dear");
        if (wrong != 0) {
            System.exit(1);
        }
    }
}
