import java.util.ArrayList;
import java.util.Comparator;
import java.util.HashMap;
import java.util.List;
import java.util.Map;

/**
 * The document's words once more, as plainly as they go: it holds only what was done, and finds each answer
 * by doing all of it again from the beginning. Exceptions are told by the numbers of Refusal.
 */
final class StreamsModel {
    private static final int INDEX = Refusal.INDEX, ARGUMENT = Refusal.ARGUMENT, STATE = Refusal.STATE;
    private static final int NOTHING = -1000000;

    /** A call that throws: code is INDEX, ARGUMENT or STATE. */
    static final class Refused extends RuntimeException {
        private static final long serialVersionUID = 1L;
        final int code;

        Refused(int code) {
            this.code = code;
        }
    }

    private int kind = 0, size = 10, slide = 1, grace = 0, reach = 5;
    private boolean aligns = true;
    private final int[] slack = new int[3];
    private final boolean[] idle = new boolean[3];
    private final List<List<int[]>> rows = List.of(new ArrayList<>(), new ArrayList<>(), new ArrayList<>());
    private final List<List<int[]>> channels = List.of(new ArrayList<>(), new ArrayList<>(), new ArrayList<>());
    private final int[] offset = new int[3];
    private final boolean[] waits = new boolean[3];
    private boolean begun = false, underWay = false, unconfirmed = false;
    private int snapshots = 0, workers = 1;

    /** What was done to the job and not taken back: {source, time, key, value}, or {-1, idle 0, 1, 2}. */
    private List<int[]> steps = new ArrayList<>();
    private final int[] offsetAtBarrier = new int[3];
    private final int[] snapshotOffset = new int[3];
    private List<List<int[]>> snapshotChannels = List.of(List.of(), List.of(), List.of());
    private int snapshotSteps = 0;
    private int committedSteps = 0;

    private static final int[] BARRIER_ROW = {};

    // ---- doing it all again

    private static final class Win {
        int key, start, end, count, sum;
        boolean emitted;
    }

    private static final class Replay {
        int mark = -1, dropped, pairs, lastTake;
        final int[] greatest = {-1, -1, -1};
        final boolean[] idle = new boolean[3];
        final List<Win> wins = new ArrayList<>();
        /** {key, start, end, count, sum, 1 emitted or 0 taken back} */
        final List<int[]> sink = new ArrayList<>();
        final List<int[]> onTime = new ArrayList<>();
    }

    private Replay replay(int upTo) {
        Replay r = new Replay();
        for (int[] step : steps.subList(0, upTo)) {
            if (step[0] == -1) {
                for (int s = 0; s < 3; s++) {
                    r.idle[s] = step[s + 1] == 1;
                }
            } else {
                replayTake(r, step[0], step[1], step[2], step[3]);
            }
            look(r);
        }
        return r;
    }

    private void replayTake(Replay r, int source, int time, int key, int value) {
        boolean late = time < r.mark;
        if (!late) {
            for (int[] e : r.onTime) {
                boolean sides = e[0] == 0 && source == 1 || e[0] == 1 && source == 0;
                if (sides && e[2] == key && Math.abs(e[1] - time) <= reach) {
                    r.pairs++;
                }
            }
            r.onTime.add(new int[] {source, time, key});
        }
        int came = kind == 2 ? gap(r, time, key, value) : steps(r, time, key, value);
        if (came == 0) {
            r.dropped++;
        }
        r.lastTake = came == 0 ? 2 : late ? 1 : 0;
        r.greatest[source] = Math.max(r.greatest[source], time);
    }

    private int steps(Replay r, int time, int key, int value) {
        int came = 0;
        int step = kind == 0 ? size : slide;
        for (int start = 0; start <= time; start += step) {
            int end = start + size;
            if (end <= time || end + grace <= r.mark) {
                continue;
            }
            came++;
            Win old = null;
            for (Win w : r.wins) {
                if (w.key == key && w.start == start) {
                    old = w;
                }
            }
            replace(r, old == null ? List.of() : List.of(old), key, start, end, value);
        }
        return came;
    }

    private int gap(Replay r, int time, int key, int value) {
        if (time + size + grace <= r.mark) {
            return 0;
        }
        List<Win> met = new ArrayList<>();
        int start = time;
        int end = time + size;
        for (Win w : r.wins) {
            boolean common = false;
            for (int moment = time; moment < time + size; moment++) {
                common |= w.start <= moment && moment < w.end;
            }
            if (w.key == key && common) {
                met.add(w);
                start = Math.min(start, w.start);
                end = Math.max(end, w.end);
            }
        }
        met.sort(Comparator.comparingInt(w -> w.start));
        replace(r, met, key, start, end, value);
        return 1;
    }

    private void replace(Replay r, List<Win> olds, int key, int start, int end, int value) {
        Win w = new Win();
        w.key = key;
        w.start = start;
        w.end = end;
        w.count = 1;
        w.sum = value;
        boolean mended = false;
        for (Win old : olds) {
            w.count += old.count;
            w.sum += old.sum;
            if (old.emitted) {
                mended = true;
                r.sink.add(new int[] {old.key, old.start, old.end, old.count, old.sum, 0});
            }
        }
        r.wins.removeAll(olds);
        r.wins.add(w);
        if (mended && end <= r.mark) {
            emit(r, w);
        }
    }

    private static void emit(Replay r, Win w) {
        w.emitted = true;
        r.sink.add(new int[] {w.key, w.start, w.end, w.count, w.sum, 1});
    }

    private int markOf(Replay r, int source) {
        return Math.max(-1, r.greatest[source] - slack[source]);
    }

    private void look(Replay r) {
        int least = 100000;
        for (int s = 0; s < 3; s++) {
            if (!r.idle[s]) {
                least = Math.min(least, markOf(r, s));
            }
        }
        if (least < 100000 && least > r.mark) {
            r.mark = least;
        }
        List<Win> due = new ArrayList<>();
        for (Win w : r.wins) {
            if (!w.emitted && w.end <= r.mark) {
                due.add(w);
            }
        }
        due.sort(Comparator.<Win>comparingInt(w -> w.end).thenComparingInt(w -> w.key).thenComparingInt(w -> w.start));
        for (Win w : due) {
            emit(r, w);
        }
    }

    private Replay now() {
        return replay(steps.size());
    }

    private void stepIdle() {
        steps.add(new int[] {-1, idle[0] ? 1 : 0, idle[1] ? 1 : 0, idle[2] ? 1 : 0});
    }

    // ---- the calls

    private static void source(int source) {
        if (source < 0 || source > 2) {
            throw new Refused(INDEX);
        }
    }

    private static void check(boolean holds, int code) {
        if (!holds) {
            throw new Refused(code);
        }
    }

    private static boolean in(int x, int low, int high) {
        return x >= low && x <= high;
    }

    int job(int kind, int size, int slide, int grace, int reach, boolean aligns) {
        check(in(kind, 0, 2) && in(size, 1, 200) && in(grace, 0, 200) && in(reach, 0, 200), ARGUMENT);
        if (kind == 1) {
            check(in(slide, 1, size), ARGUMENT);
            for (int moment = 0; moment < 2 * size; moment++) {
                int windows = 0;
                for (int start = 0; start <= moment; start += slide) {
                    windows += moment < start + size ? 1 : 0;
                }
                check(windows <= 8, ARGUMENT);
            }
        }
        check(!begun, STATE);
        this.kind = kind;
        this.size = size;
        this.slide = slide;
        this.grace = grace;
        this.reach = reach;
        this.aligns = aligns;
        return 0;
    }

    int slack(int source, int slack) {
        source(source);
        check(in(slack, 0, 200), ARGUMENT);
        check(!begun, STATE);
        int before = this.slack[source];
        this.slack[source] = slack;
        return before;
    }

    int append(int source, int time, int key, int value) {
        source(source);
        check(in(time, 0, 999) && in(key, 0, 5) && in(value, -1000, 1000), ARGUMENT);
        check(rows.get(source).size() < 40, STATE);
        rows.get(source).add(new int[] {source, time, key, value});
        return rows.get(source).size() - 1;
    }

    int read(int source) {
        source(source);
        check(offset[source] < rows.get(source).size() && inChannel(source) < 4, STATE);
        begun = true;
        channels.get(source).add(rows.get(source).get(offset[source]++));
        return inChannel(source);
    }

    int idle(int source, boolean isIdle) {
        source(source);
        boolean before = idle[source];
        idle[source] = isIdle;
        stepIdle();
        return before ? 1 : 0;
    }

    int take(int source) {
        source(source);
        check(!channels.get(source).isEmpty() && !waits[source], STATE);
        int[] row = channels.get(source).remove(0);
        if (row != BARRIER_ROW) {
            steps.add(row);
            return now().lastTake;
        }
        waits[source] = true;
        if (!(waits[0] && waits[1] && waits[2])) {
            return 3;
        }
        for (int s = 0; s < 3; s++) {
            waits[s] = false;
        }
        underWay = false;
        snapshot(List.of(List.of(), List.of(), List.of()));
        return 4;
    }

    private void snapshot(List<List<int[]>> inChannels) {
        snapshotChannels = inChannels;
        for (int s = 0; s < 3; s++) {
            snapshotOffset[s] = offsetAtBarrier[s];
        }
        snapshotSteps = steps.size();
        snapshots++;
        unconfirmed = true;
    }

    int barrier() {
        check(!underWay, STATE);
        begun = true;
        for (int s = 0; s < 3; s++) {
            offsetAtBarrier[s] = offset[s];
        }
        if (aligns) {
            underWay = true;
            for (List<int[]> channel : channels) {
                channel.add(BARRIER_ROW);
            }
        } else {
            snapshot(List.of(new ArrayList<>(channels.get(0)), new ArrayList<>(channels.get(1)),
                    new ArrayList<>(channels.get(2))));
        }
        return snapshots;
    }

    int confirm() {
        check(unconfirmed, STATE);
        unconfirmed = false;
        committedSteps = snapshotSteps;
        return replay(committedSteps).sink.size();
    }

    int fail() {
        unconfirmed = false;
        underWay = false;
        committedSteps = snapshotSteps;
        steps = new ArrayList<>(steps.subList(0, snapshotSteps));
        for (int s = 0; s < 3; s++) {
            waits[s] = false;
            offset[s] = snapshotOffset[s];
            channels.get(s).clear();
            channels.get(s).addAll(snapshotChannels.get(s));
        }
        stepIdle();
        return replay(committedSteps).sink.size();
    }

    int workers(int workers) {
        check(in(workers, 1, 3), ARGUMENT);
        check(snapshots > 0, STATE);
        int moved = 0;
        for (int key = 0; key < 6; key++) {
            moved += key * workers / 6 == key * this.workers / 6 ? 0 : 1;
        }
        this.workers = workers;
        fail();
        return moved;
    }

    int watermark() {
        return now().mark;
    }

    int sourceWatermark(int source) {
        source(source);
        return markOf(now(), source);
    }

    int offset(int source) {
        source(source);
        return offset[source];
    }

    int inChannel(int source) {
        source(source);
        int count = 0;
        for (int[] row : channels.get(source)) {
            count += row == BARRIER_ROW ? 0 : 1;
        }
        return count;
    }

    private boolean isOpen(Win w, int mark) {
        return mark < w.end + grace + (kind == 2 ? size : 0);
    }

    int open(int worker) {
        check(in(worker, 0, workers - 1), INDEX);
        Replay r = now();
        int count = 0;
        for (Win w : r.wins) {
            count += w.key * workers / 6 == worker && isOpen(w, r.mark) ? 1 : 0;
        }
        return count;
    }

    int sumAt(int key, int time) {
        check(in(key, 0, 5), INDEX);
        check(in(time, 0, 1200), ARGUMENT);
        Replay r = now();
        Win first = null;
        for (Win w : r.wins) {
            if (w.key == key && w.start <= time && time < w.end && isOpen(w, r.mark)
                    && (first == null || w.start < first.start)) {
                first = w;
            }
        }
        return first == null ? NOTHING : first.sum;
    }

    int dropped() {
        return now().dropped;
    }

    int pairs() {
        return now().pairs;
    }

    int uncommitted() {
        return now().sink.size() - replay(committedSteps).sink.size();
    }

    int result(int key, int start, int what) {
        check(in(key, 0, 5), INDEX);
        check(in(start, 0, 999) && in(what, 0, 2), ARGUMENT);
        Map<Integer, int[]> standing = new HashMap<>();
        for (int[] row : replay(committedSteps).sink) {
            int name = row[0] * 1000 + row[1];
            int[] old = row[5] == 1 ? standing.put(name, row) : standing.remove(name);
            boolean fits = row[5] == 1 ? old == null
                    : old != null && old[2] == row[2] && old[3] == row[3] && old[4] == row[4];
            if (!fits) {
                throw new IllegalStateException("the model's sink does not fit together");
            }
        }
        int[] row = standing.get(key * 1000 + start);
        return row == null ? NOTHING : what == 0 ? row[3] : what == 1 ? row[4] : row[2];
    }
}
