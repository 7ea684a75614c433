import java.util.ArrayList;

/**
 * A processor of streams: three sources, their channels, watermarks, windows by keys, a join,
 * barriers and snapshots, a sink with two phases, failures, and workers among whom the keys are shared.
 *
 * What a failure takes back stands in one Progress, so that a snapshot is a copy of it.
 */
public final class SnowmeltStreams {
    public static final int NONE = -1;
    public static final int TUMBLE = 0, SLIDE = 1, GAP = 2;
    public static final int EVENT = 0, LATE = 1, DROPPED = 2, BARRIER = 3, LAST_BARRIER = 4;

    private static final int SOURCES = 3;
    private static final int KEYS = 6;
    private static final int MOST_WORKERS = 3;
    private static final int MOST_EVENTS = 40;
    private static final int CREDITS = 4;
    private static final int MOST_TIME = 999;
    private static final int MOST_MOMENT = 1200;
    private static final int MOST_VALUE = 1000;
    private static final int MOST_SPAN = 200;
    private static final int MOST_WINDOWS_AT_A_MOMENT = 8;
    private static final int COUNT = 0, SUM = 1, END = 2;
    private static final int NO_NUMBER = -1000000;

    private final Job job = new Job();
    private final Source[] sources = {new Source(), new Source(), new Source()};
    private final Progress now = new Progress();
    private final Progress snapshot = new Progress();
    private final History history = new History();
    private final Sink sink = new Sink();
    private final Barrier barrier = new Barrier();
    private boolean hasBegun = false;
    private int snapshotsTaken = 0;
    private boolean isSnapshotUnconfirmed = false;
    private int workerCount = 1;

    public SnowmeltStreams() {
    }

    public void job(int kind, int size, int slide, int grace, int reach, boolean aligns)
            throws IllegalArgumentException, IllegalStateException {
        if (kind < TUMBLE || kind > GAP || size < 1 || size > MOST_SPAN || !isSpan(grace) || !isSpan(reach)) {
            throw new IllegalArgumentException("kind, size, grace or reach is out of range");
        }
        if (kind == SLIDE && !isSlide(slide, size)) {
            throw new IllegalArgumentException("slide is out of range");
        }
        needNotBegun();
        job.kind = kind;
        job.size = size;
        job.step = kind == SLIDE ? slide : size;
        job.grace = grace;
        job.reach = reach;
        job.aligns = aligns;
    }

    public int slack(int source, int slack)
            throws IndexOutOfBoundsException, IllegalArgumentException, IllegalStateException {
        needSource(source);
        if (!isSpan(slack)) {
            throw new IllegalArgumentException("slack is out of range");
        }
        needNotBegun();
        int before = sources[source].slack;
        sources[source].slack = slack;
        return before;
    }

    public int append(int source, int time, int key, int value)
            throws IndexOutOfBoundsException, IllegalArgumentException, IllegalStateException {
        needSource(source);
        if (time < 0 || time > MOST_TIME || !isKey(key) || value < -MOST_VALUE || value > MOST_VALUE) {
            throw new IllegalArgumentException("time, key or value is out of range");
        }
        ArrayList<Event> events = sources[source].events;
        if (events.size() >= MOST_EVENTS) {
            throw new IllegalStateException("the source is full");
        }
        events.add(new Event(source, time, key, value));
        return events.size() - 1;
    }

    public int read(int source) throws IndexOutOfBoundsException, IllegalStateException {
        needSource(source);
        if (now.offset[source] >= sources[source].events.size()) {
            throw new IllegalStateException("there is no event to read");
        }
        if (now.inChannelOf(source) >= CREDITS) {
            throw new IllegalStateException("the channel is full");
        }
        hasBegun = true;
        now.offset[source]++;
        return now.inChannelOf(source);
    }

    public boolean idle(int source, boolean isIdle) throws IndexOutOfBoundsException {
        needSource(source);
        boolean before = sources[source].isIdle;
        sources[source].isIdle = isIdle;
        lookAtWatermark();
        return before;
    }

    public int take(int source) throws IndexOutOfBoundsException, IllegalStateException {
        needSource(source);
        if (barrier.holds(source)) {
            throw new IllegalStateException("the channel waits");
        }
        if (barrier.isAtFront(source, now.taken[source])) {
            return takeBarrier(source);
        }
        Event event = frontOf(source);
        if (event == null) {
            throw new IllegalStateException("the channel is empty");
        }
        return takeEvent(source, event);
    }

    public int barrier() throws IllegalStateException {
        if (barrier.isUnderWay) {
            throw new IllegalStateException("a barrier is under way");
        }
        hasBegun = true;
        barrier.put(now.offset, job.aligns);
        if (!job.aligns) {
            takeSnapshot();
        }
        return snapshotsTaken;
    }

    public int confirm() throws IllegalStateException {
        if (!isSnapshotUnconfirmed) {
            throw new IllegalStateException("no snapshot is unconfirmed");
        }
        commitSnapshot();
        return sink.committed;
    }

    public int fail() {
        fallBack();
        return sink.committed;
    }

    public int workers(int workers) throws IllegalArgumentException, IllegalStateException {
        if (workers < 1 || workers > MOST_WORKERS) {
            throw new IllegalArgumentException("workers is out of range");
        }
        if (snapshotsTaken == 0) {
            throw new IllegalStateException("no snapshot was taken");
        }
        int moved = 0;
        for (int key = 0; key < KEYS; key++) {
            if (workerOf(key, workerCount) != workerOf(key, workers)) {
                moved++;
            }
        }
        workerCount = workers;
        fallBack();
        return moved;
    }

    public int watermark() {
        return now.watermark;
    }

    public int sourceWatermark(int source) throws IndexOutOfBoundsException {
        needSource(source);
        return markOf(source);
    }

    public int offset(int source) throws IndexOutOfBoundsException {
        needSource(source);
        return now.offset[source];
    }

    public int inChannel(int source) throws IndexOutOfBoundsException {
        needSource(source);
        return now.inChannelOf(source);
    }

    public int open(int worker) throws IndexOutOfBoundsException {
        if (worker < 0 || worker >= workerCount) {
            throw new IndexOutOfBoundsException("no such worker");
        }
        int count = 0;
        for (int i = 0; i < now.windows.rows.size(); i++) {
            Window window = now.windows.rows.get(i);
            if (workerOf(window.key, workerCount) == worker && job.keepsOpen(window.end, now.watermark)) {
                count++;
            }
        }
        return count;
    }

    public int sumAt(int key, int time) throws IndexOutOfBoundsException, IllegalArgumentException {
        needKey(key);
        if (time < 0 || time > MOST_MOMENT) {
            throw new IllegalArgumentException("time is out of range");
        }
        Window first = null;
        for (int i = 0; i < now.windows.rows.size(); i++) {
            Window window = now.windows.rows.get(i);
            if (window.key == key && window.hasMoment(time) && job.keepsOpen(window.end, now.watermark)
                    && (first == null || window.start < first.start)) {
                first = window;
            }
        }
        return first == null ? NO_NUMBER : first.sum;
    }

    public int dropped() {
        return now.dropped;
    }

    public int pairs() {
        return now.pairs;
    }

    public int pairsAnew() {
        return history.countPairs(job.reach);
    }

    public int uncommitted() {
        return sink.written - sink.committed;
    }

    public int result(int key, int start, int what) throws IndexOutOfBoundsException, IllegalArgumentException {
        needResultOf(key, start, what);
        Window last = sink.lastCommitted(key, start);
        return last == null || !last.isEmitted ? NO_NUMBER : last.number(what);
    }

    public int resultAnew(int key, int start, int what) throws IndexOutOfBoundsException, IllegalArgumentException {
        needResultOf(key, start, what);
        int end = job.kind == GAP ? history.endByGap(job, key, start) : job.endBySteps(start);
        if (end == NONE || end > history.committedWatermark) {
            return NO_NUMBER;
        }
        Window found = history.gather(job, key, start, end);
        return found.count == 0 ? NO_NUMBER : found.number(what);
    }

    private static void needSource(int source) {
        if (source < 0 || source >= SOURCES) {
            throw new IndexOutOfBoundsException("no such source");
        }
    }

    private static void needKey(int key) {
        if (!isKey(key)) {
            throw new IndexOutOfBoundsException("no such key");
        }
    }

    private static void needResultOf(int key, int start, int what) {
        needKey(key);
        if (start < 0 || start > MOST_TIME || what < COUNT || what > END) {
            throw new IllegalArgumentException("start or what is out of range");
        }
    }

    private void needNotBegun() {
        if (hasBegun) {
            throw new IllegalStateException("something was read, or a barrier was put");
        }
    }

    private static boolean isKey(int key) {
        return key >= 0 && key < KEYS;
    }

    private static boolean isSpan(int span) {
        return span >= 0 && span <= MOST_SPAN;
    }

    private static boolean isSlide(int slide, int size) {
        return slide >= 1 && slide <= size && size <= MOST_WINDOWS_AT_A_MOMENT * slide;
    }

    private static int workerOf(int key, int count) {
        return key * count / KEYS;
    }

    private int markOf(int source) {
        return Math.max(NONE, now.greatest[source] - sources[source].slack);
    }

    private Event frontOf(int source) {
        int at = now.taken[source];
        ArrayList<Event> events = sources[source].events;
        return at >= 0 && at < now.offset[source] && at < events.size() ? events.get(at) : null;
    }

    private int takeBarrier(int source) {
        barrier.takeOf(source);
        if (!barrier.isTakenOfAll()) {
            return BARRIER;
        }
        barrier.isUnderWay = false;
        takeSnapshot();
        return LAST_BARRIER;
    }

    private int takeEvent(int source, Event event) {
        event.watermark = now.watermark;
        now.pairs += history.countPairsOf(event, job.reach);
        history.events.add(event);
        now.historyLength++;
        now.taken[source]++;
        now.greatest[source] = Math.max(now.greatest[source], event.time);
        boolean comes = job.kind == GAP
                ? now.windows.admitByGap(event, job, sink) : now.windows.admitBySteps(event, job, sink);
        if (!comes) {
            now.dropped++;
        }
        lookAtWatermark();
        return !comes ? DROPPED : event.isLate() ? LATE : EVENT;
    }

    private void lookAtWatermark() {
        boolean isAnyActive = false;
        int least = NONE;
        for (int source = 0; source < SOURCES; source++) {
            if (!sources[source].isIdle) {
                int mark = markOf(source);
                least = isAnyActive ? Math.min(least, mark) : mark;
                isAnyActive = true;
            }
        }
        if (isAnyActive) {
            now.watermark = Math.max(now.watermark, least);
        }
        now.windows.emitDue(now.watermark, sink);
    }

    private void takeSnapshot() {
        snapshot.copyFrom(now);
        // What was read behind the barrier is read again after a failure.
        for (int source = 0; source < SOURCES; source++) {
            snapshot.offset[source] = barrier.at[source];
        }
        sink.prepared = sink.written;
        snapshotsTaken++;
        isSnapshotUnconfirmed = true;
    }

    private void commitSnapshot() {
        sink.committed = sink.prepared;
        history.committedLength = snapshot.historyLength;
        history.committedWatermark = snapshot.watermark;
        isSnapshotUnconfirmed = false;
    }

    private void fallBack() {
        commitSnapshot();
        sink.written = sink.prepared;
        now.copyFrom(snapshot);
        history.cutTo(now.historyLength);
        barrier.isUnderWay = false;
        lookAtWatermark();
    }

    /** The settings of the job. TUMBLE is held as SLIDE whose slide is its size. */
    private static final class Job {
        int kind = TUMBLE;
        int size = 10;
        int step = 10;
        int grace = 0;
        int reach = 5;
        boolean aligns = true;

        boolean admits(int end, int watermark) {
            return end + grace > watermark;
        }

        boolean keepsOpen(int end, int watermark) {
            return watermark < end + grace + (kind == GAP ? size : 0);
        }

        int lastStart(int time) {
            return step < 1 ? time : time - time % step;
        }

        /** The end of the window that begins there, or NONE if none does. */
        int endBySteps(int start) {
            return lastStart(start) == start ? start + size : NONE;
        }

        /** Whether the event came to the window with this end, or, for GAP, to any. */
        boolean admitted(Event event, int end) {
            return admits(kind == GAP ? event.time + size : end, event.watermark);
        }
    }

    private static final class Source {
        final ArrayList<Event> events = new ArrayList<Event>();
        int slack = 0;
        boolean isIdle = false;
    }

    private static final class Event {
        final int source;
        final int time;
        final int key;
        final int value;
        /** The watermark of the job when the event was last taken. */
        int watermark = NONE;

        Event(int source, int time, int key, int value) {
            this.source = source;
            this.time = time;
            this.key = key;
            this.value = value;
        }

        boolean isLate() {
            return time < watermark;
        }

        boolean isPairWith(Event other, int reach) {
            // No two sources but 0 and 1 have numbers that add up to 1.
            boolean isOfBoth = source + other.source == 1;
            int apart = time < other.time ? other.time - time : time - other.time;
            return isOfBoth && key == other.key && apart <= reach && !isLate() && !other.isLate();
        }
    }

    /** All that a failure takes back, but for the sink and the history, which are cut. */
    private static final class Progress {
        final int[] offset = new int[SOURCES];
        final int[] taken = new int[SOURCES];
        final int[] greatest = {NONE, NONE, NONE};
        int watermark = NONE;
        int historyLength = 0;
        int dropped = 0;
        int pairs = 0;
        final Windows windows = new Windows();

        int inChannelOf(int source) {
            return offset[source] - taken[source];
        }

        void copyFrom(Progress other) {
            for (int source = 0; source < SOURCES; source++) {
                offset[source] = other.offset[source];
                taken[source] = other.taken[source];
                greatest[source] = other.greatest[source];
            }
            watermark = other.watermark;
            historyLength = other.historyLength;
            dropped = other.dropped;
            pairs = other.pairs;
            windows.copyFrom(other.windows);
        }
    }

    /** A barrier, by the offsets at which it lies in the channels. */
    private static final class Barrier {
        final int[] at = new int[SOURCES];
        final boolean[] isTaken = new boolean[SOURCES];
        boolean isUnderWay = false;

        void put(int[] offsets, boolean aligns) {
            for (int source = 0; source < SOURCES && source < offsets.length; source++) {
                at[source] = offsets[source];
                isTaken[source] = false;
            }
            isUnderWay = aligns;
        }

        boolean holds(int source) {
            return isUnderWay && isTaken[source];
        }

        boolean isAtFront(int source, int taken) {
            return isUnderWay && !isTaken[source] && at[source] == taken;
        }

        void takeOf(int source) {
            isTaken[source] = true;
        }

        boolean isTakenOfAll() {
            for (int source = 0; source < SOURCES; source++) {
                if (!isTaken[source]) {
                    return false;
                }
            }
            return true;
        }
    }

    private static final class Window {
        int key;
        int start;
        int end;
        int count;
        int sum;
        boolean isEmitted;

        void begin(int ofKey, int from, int to) {
            key = ofKey;
            start = from;
            end = to;
            count = 0;
            sum = 0;
            isEmitted = false;
        }

        void copyFrom(Window other) {
            key = other.key;
            start = other.start;
            end = other.end;
            count = other.count;
            sum = other.sum;
            isEmitted = other.isEmitted;
        }

        void addValue(int value) {
            count++;
            sum += value;
        }

        void absorb(Window other) {
            start = Math.min(start, other.start);
            end = Math.max(end, other.end);
            count += other.count;
            sum += other.sum;
        }

        int number(int what) {
            return what == COUNT ? count : what == SUM ? sum : end;
        }

        boolean hasMoment(int moment) {
            return start <= moment && moment < end;
        }

        boolean meets(Window other) {
            return key == other.key && start < other.end && other.start < end;
        }

        boolean isAheadOf(Window other) {
            if (end != other.end) {
                return end < other.end;
            }
            return key != other.key ? key < other.key : start < other.start;
        }
    }

    /**
     * The windows that have events, in the order in which results are emitted: rising ends, then keys,
     * then beginnings. Those that no event can reach any more stay: there are at most 8 to an event.
     */
    private static final class Windows {
        final ArrayList<Window> rows = new ArrayList<Window>();
        /** Rows out of use, taken up again so that snapshots make no new ones. */
        final ArrayList<Window> spare = new ArrayList<Window>();

        Window unusedRow() {
            int last = spare.size() - 1;
            return last < 0 ? new Window() : spare.remove(last);
        }

        void copyFrom(Windows other) {
            for (int i = rows.size() - 1; i >= other.rows.size(); i--) {
                spare.add(rows.remove(i));
            }
            for (int i = 0; i < other.rows.size(); i++) {
                if (i >= rows.size()) {
                    rows.add(unusedRow());
                }
                rows.get(i).copyFrom(other.rows.get(i));
            }
        }

        void insert(Window window) {
            int at = 0;
            while (at < rows.size() && rows.get(at).isAheadOf(window)) {
                at++;
            }
            rows.add(at, window);
        }

        Window find(int key, int start) {
            for (int i = 0; i < rows.size(); i++) {
                Window window = rows.get(i);
                if (window.key == key && window.start == start) {
                    return window;
                }
            }
            return null;
        }

        /** Puts the event into its windows; false if it comes to none. */
        boolean admitBySteps(Event event, Job job, Sink sink) {
            int last = job.lastStart(event.time);
            int first = last;
            for (int i = 1; i < MOST_WINDOWS_AT_A_MOMENT; i++) {
                int earlier = first - job.step;
                if (earlier >= 0 && earlier + job.size > event.time) {
                    first = earlier;
                }
            }
            boolean comes = false;
            for (int i = 0; i < MOST_WINDOWS_AT_A_MOMENT; i++) {
                int start = first + i * job.step;
                if (start <= last && job.admits(start + job.size, event.watermark)) {
                    addToWindow(event, start, start + job.size, sink);
                    comes = true;
                }
            }
            return comes;
        }

        void addToWindow(Event event, int start, int end, Sink sink) {
            Window window = find(event.key, start);
            if (window == null) {
                window = unusedRow();
                window.begin(event.key, start, end);
                insert(window);
            }
            boolean isMended = window.isEmitted;
            if (isMended) {
                sink.write(window, false);
            }
            window.addValue(event.value);
            if (isMended) {
                emitIfDue(window, event.watermark, sink);
            }
        }

        /** Makes the window of the event, merged with those it meets; false if it comes to none. */
        boolean admitByGap(Event event, Job job, Sink sink) {
            int end = event.time + job.size;
            if (!job.admits(end, event.watermark)) {
                return false;
            }
            Window window = unusedRow();
            window.begin(event.key, event.time, end);
            window.addValue(event.value);
            boolean isMended = absorbMet(window, sink);
            insert(window);
            if (isMended) {
                emitIfDue(window, event.watermark, sink);
            }
            return true;
        }

        /** Merges into the new window all that it meets; true if a result was taken back. */
        boolean absorbMet(Window window, Sink sink) {
            boolean isMended = false;
            int at = 0;
            for (int left = rows.size(); left > 0 && at < rows.size(); left--) {
                Window other = rows.get(at);
                if (!window.meets(other)) {
                    at++;
                    continue;
                }
                if (other.isEmitted) {
                    sink.write(other, false);
                    isMended = true;
                }
                window.absorb(other);
                spare.add(rows.remove(at));
            }
            return isMended;
        }

        void emitIfDue(Window window, int watermark, Sink sink) {
            if (window.end <= watermark) {
                sink.write(window, true);
            }
        }

        void emitDue(int watermark, Sink sink) {
            for (int i = 0; i < rows.size(); i++) {
                Window window = rows.get(i);
                if (window.end > watermark) {
                    return;
                }
                if (!window.isEmitted) {
                    sink.write(window, true);
                }
            }
        }
    }

    /**
     * All that was emitted and taken back, in its order: the first ones are committed, the next ones
     * prepared, the last ones open. A row whose isEmitted is false took its result back. Rows behind
     * what is written are kept for what is written next.
     */
    private static final class Sink {
        final ArrayList<Window> rows = new ArrayList<Window>();
        int committed = 0;
        int prepared = 0;
        int written = 0;

        void write(Window window, boolean isEmitted) {
            window.isEmitted = isEmitted;
            if (written >= rows.size()) {
                rows.add(new Window());
            }
            if (written < rows.size()) {
                rows.get(written).copyFrom(window);
                written++;
            }
        }

        /** The last committed row of the key and the beginning, or null. */
        Window lastCommitted(int key, int start) {
            Window last = null;
            for (int i = 0; i < committed && i < rows.size(); i++) {
                Window row = rows.get(i);
                if (row.key == key && row.start == start) {
                    last = row;
                }
            }
            return last;
        }
    }

    /** The events that were taken, in their order, as far as no failure took them back. */
    private static final class History {
        final ArrayList<Event> events = new ArrayList<Event>();
        /** How many were taken up to the snapshot of which all is committed, and the watermark then. */
        int committedLength = 0;
        int committedWatermark = NONE;
        final Window gathered = new Window();

        void cutTo(int length) {
            for (int i = events.size() - 1; i >= length; i--) {
                events.remove(i);
            }
        }

        int countPairsOf(Event event, int reach) {
            int count = 0;
            for (int i = 0; i < events.size(); i++) {
                if (events.get(i).isPairWith(event, reach)) {
                    count++;
                }
            }
            return count;
        }

        int countPairs(int reach) {
            int count = 0;
            for (int i = 0; i < events.size(); i++) {
                for (int j = 0; j < i; j++) {
                    if (events.get(i).isPairWith(events.get(j), reach)) {
                        count++;
                    }
                }
            }
            return count;
        }

        /** The committed event at this place if it is of the key and came to a window with this end. */
        Event admittedAt(int i, Job job, int key, int end) {
            if (i < 0 || i >= events.size() || i >= committedLength) {
                return null;
            }
            Event event = events.get(i);
            return event.key == key && job.admitted(event, end) ? event : null;
        }

        /** The end of the merged window that begins there, or NONE if none does. */
        int endByGap(Job job, int key, int start) {
            boolean begins = false;
            for (int i = 0; i < committedLength; i++) {
                Event event = admittedAt(i, job, key, NONE);
                if (event != null && event.time < start && event.time + job.size > start) {
                    return NONE;
                }
                begins |= event != null && event.time == start;
            }
            if (!begins) {
                return NONE;
            }
            int end = start + job.size;
            // Each round but the last takes in an event more at least.
            for (int round = 0; round < committedLength; round++) {
                int further = furthestEnd(job, key, start, end);
                if (further == end) {
                    return end;
                }
                end = further;
            }
            return end;
        }

        int furthestEnd(Job job, int key, int start, int end) {
            int furthest = end;
            for (int i = 0; i < committedLength; i++) {
                Event event = admittedAt(i, job, key, NONE);
                if (event != null && event.time >= start && event.time < furthest) {
                    furthest = Math.max(furthest, event.time + job.size);
                }
            }
            return furthest;
        }

        /** The window of what came to it; its count is 0 if nothing did. */
        Window gather(Job job, int key, int start, int end) {
            gathered.begin(key, start, end);
            for (int i = 0; i < committedLength; i++) {
                Event event = admittedAt(i, job, key, end);
                if (event != null && gathered.hasMoment(event.time)) {
                    gathered.addValue(event.value);
                }
            }
            return gathered;
        }
    }
}
