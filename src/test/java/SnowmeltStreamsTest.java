/** For each promise of the document: ordinary inputs, the edges that it names, and wrong inputs. */
public final class SnowmeltStreamsTest {
    private static final int NO_NUMBER = -1000000;
    private static final int INDEX = Refusal.INDEX, ARGUMENT = Refusal.ARGUMENT, STATE = Refusal.STATE;
    private static int wrong = 0;

    private interface Call {
        int answer();
    }

    private static int yes(boolean b) {
        return b ? 1 : 0;
    }

    private static int answerOf(Call call) {
        try {
            return call.answer();
        } catch (RuntimeException e) {
            return Refusal.of(e);
        }
    }

    private static void due(String what, int want, Call call) {
        int got = answerOf(call);
        if (got != want) {
            wrong++;
            System.out.println(what + ": answered " + got + ", due is " + want);
        }
    }

    private static int job(SnowmeltStreams x, int kind, int size, int slide, int grace, int reach, boolean aligns) {
        return answerOf(() -> {
            x.job(kind, size, slide, grace, reach, aligns);
            return 0;
        });
    }

    private static SnowmeltStreams tumble(int size, int grace, boolean aligns) {
        SnowmeltStreams x = new SnowmeltStreams();
        x.job(SnowmeltStreams.TUMBLE, size, 1, grace, 5, aligns);
        return x;
    }

    /** Only the source 0 counts for the watermark. */
    private static SnowmeltStreams alone(SnowmeltStreams x) {
        x.idle(1, true);
        x.idle(2, true);
        return x;
    }

    private static int pass(SnowmeltStreams x, int source, int time, int key, int value) {
        x.append(source, time, key, value);
        x.read(source);
        return x.take(source);
    }

    private static int align(SnowmeltStreams x) {
        x.barrier();
        x.take(0);
        x.take(1);
        return x.take(2);
    }

    private static int all(SnowmeltStreams x, int key, int start, boolean anew) {
        int answer = 0;
        for (int what = 0; what < 3; what++) {
            int number = anew ? x.resultAnew(key, start, what) : x.result(key, start, what);
            answer = answer * 2000 + number;
        }
        return answer;
    }

    private static void dueResult(String name, SnowmeltStreams x, int key, int start, int count, int sum, int end) {
        int want = (count * 2000 + sum) * 2000 + end;
        due(name + " result", want, () -> all(x, key, start, false));
        due(name + " resultAnew", want, () -> all(x, key, start, true));
    }

    private static void dueNoResult(String name, SnowmeltStreams x, int key, int start) {
        for (int what = 0; what < 3; what++) {
            int w = what;
            due(name + " result", NO_NUMBER, () -> x.result(key, start, w));
            due(name + " resultAnew", NO_NUMBER, () -> x.resultAnew(key, start, w));
        }
    }

    private static void newObject() {
        SnowmeltStreams x = new SnowmeltStreams();
        due("1 watermark", -1, x::watermark);
        for (int source = 0; source < 3; source++) {
            int s = source;
            due("1 offset", 0, () -> x.offset(s));
            due("1 inChannel", 0, () -> x.inChannel(s));
            due("1 sourceWatermark", -1, () -> x.sourceWatermark(s));
            due("1 slack", 0, () -> x.slack(s, 0));
            due("1 idle", 0, () -> yes(x.idle(s, false)));
        }
        due("1 open", 0, () -> x.open(0));
        due("1 one worker", INDEX, () -> x.open(1));
        due("1 dropped, pairs, uncommitted", 0, () -> x.dropped() + x.pairs() + x.pairsAnew() + x.uncommitted());
        alone(x);
        pass(x, 0, 7, 0, 1);
        due("1 TUMBLE of 10 begins at 0", 1, () -> x.sumAt(0, 0));
        due("1 and ends at 10", NO_NUMBER, () -> x.sumAt(0, 10));
        pass(x, 1, 12, 0, 1);
        due("1 the reach is 5", 1, x::pairs);
        pass(x, 1, 13, 0, 1);
        due("1 and not 6", 1, x::pairs);
        pass(x, 0, 10, 0, 1);
        due("1 no grace", SnowmeltStreams.DROPPED, () -> pass(x, 0, 9, 0, 1));
        due("1 aligning", 0, x::barrier);
        due("1 aligning", SnowmeltStreams.BARRIER, () -> x.take(1));
    }

    private static void jobs() {
        SnowmeltStreams x = new SnowmeltStreams();
        int[][] good = {{0, 1, 0, 0, 0}, {0, 200, -5, 200, 200}, {1, 8, 1, 0, 0}, {1, 200, 200, 0, 0}, {1, 200, 25, 0, 0},
            {1, 1, 1, 0, 0}, {1, 16, 2, 3, 4}, {2, 1, 999, 0, 0}, {2, 200, 0, 200, 200}};
        for (int[] g : good) {
            due("2 job " + g[0] + " " + g[1] + " " + g[2], 0, () -> job(x, g[0], g[1], g[2], g[3], g[4], true));
        }
        int[][] bad = {{-1, 10, 5, 0, 0}, {3, 10, 5, 0, 0}, {0, 0, 1, 0, 0}, {0, 201, 1, 0, 0}, {0, 10, 1, -1, 0},
            {0, 10, 1, 201, 0}, {0, 10, 1, 0, -1}, {2, 10, 1, 0, 201}, {1, 10, 0, 0, 0}, {1, 10, 11, 0, 0},
            {1, 9, 1, 0, 0}, {1, 17, 2, 0, 0}, {1, 200, 24, 0, 0}, {1, 10, -1, 0, 0}, {1, 10, Integer.MAX_VALUE, 0, 0},
            {1, 10, Integer.MIN_VALUE, 0, 0}, {Integer.MIN_VALUE, Integer.MAX_VALUE, 0, 0, 0}};
        for (int[] b : bad) {
            due("2 job " + b[0] + " " + b[1] + " " + b[2], ARGUMENT, () -> job(x, b[0], b[1], b[2], b[3], b[4], true));
        }
        alone(x);
        pass(x, 0, 1, 0, 3);
        due("2 what is refused changes nothing", 3, () -> x.sumAt(0, 200));
        due("2 something was read", STATE, () -> job(x, 0, 10, 1, 0, 0, true));
        due("2 the argument goes ahead", ARGUMENT, () -> job(x, 3, 10, 1, 0, 0, true));
        x.fail();
        due("2 something was read, though it failed", STATE, () -> job(x, 0, 10, 1, 0, 0, true));
        SnowmeltStreams y = tumble(10, 0, false);
        y.append(0, 1, 1, 1);
        y.fail();
        due("2 appends and failures do not matter", 0, () -> job(y, 0, 10, 1, 0, 0, false));
        y.barrier();
        due("2 a barrier was put", STATE, () -> job(y, 0, 10, 1, 0, 0, true));
    }

    private static void slacks() {
        SnowmeltStreams x = alone(new SnowmeltStreams());
        due("3 slack", 0, () -> x.slack(0, 200));
        due("3 slack", 200, () -> x.slack(0, 5));
        due("3 slack of another", 0, () -> x.slack(2, 0));
        due("3 no source", INDEX, () -> x.slack(3, 201));
        due("3 no source", INDEX, () -> x.slack(-1, 0));
        due("3 out of range", ARGUMENT, () -> x.slack(0, 201));
        due("3 out of range", ARGUMENT, () -> x.slack(0, -1));
        pass(x, 0, 25, 0, 1);
        due("3 the watermark is less by the slack", 20, x::watermark);
        due("3 something was read", STATE, () -> x.slack(0, 5));
        due("3 the argument goes ahead", ARGUMENT, () -> x.slack(0, 201));
        SnowmeltStreams y = new SnowmeltStreams();
        y.barrier();
        due("3 a barrier was put", STATE, () -> y.slack(1, 1));
        y.fail();
        due("3 a barrier was put, though it is gone", STATE, () -> y.slack(1, 1));
    }

    private static void appends() {
        SnowmeltStreams x = new SnowmeltStreams();
        int[][] bad = {{-1, 0, 0}, {1000, 0, 0}, {0, -1, 0}, {0, 6, 0}, {0, 0, -1001}, {0, 0, 1001}};
        for (int[] b : bad) {
            due("4 out of range", ARGUMENT, () -> x.append(0, b[0], b[1], b[2]));
            due("4 the source goes ahead", INDEX, () -> x.append(3, b[0], b[1], b[2]));
        }
        due("4 no source", INDEX, () -> x.append(-1, 0, 0, 0));
        for (int i = 0; i < 40; i++) {
            int want = i;
            due("4 offset", want, () -> x.append(1, want % 2 == 0 ? 0 : 999, want % 6, want % 2 == 0 ? -1000 : 1000));
        }
        due("4 it has 40", STATE, () -> x.append(1, 0, 0, 0));
        due("4 the argument goes ahead", ARGUMENT, () -> x.append(1, 1000, 0, 0));
        due("4 another has none", 0, () -> x.append(2, 0, 0, 0));
        due("4 nothing is read by it", 0, () -> x.offset(1) + x.inChannel(1));
    }

    private static void reads() {
        SnowmeltStreams x = new SnowmeltStreams();
        due("5 no source", INDEX, () -> x.read(3));
        due("5 no source", INDEX, () -> x.read(-1));
        due("5 there is none", STATE, () -> x.read(0));
        for (int i = 0; i < 6; i++) {
            x.append(0, i, 0, 1);
        }
        for (int i = 1; i <= 4; i++) {
            int want = i;
            due("5 read", want, () -> x.read(0));
        }
        due("5 the channel has 4", STATE, () -> x.read(0));
        due("5 the offset", 4, () -> x.offset(0));
        due("5 in their order", SnowmeltStreams.EVENT, () -> x.take(0));
        due("5 one was taken", 4, () -> x.read(0));
        x.barrier();
        due("5 barriers are not counted", STATE, () -> x.read(0));
        x.take(0);
        due("5 barriers are not counted", 4, () -> x.read(0));
        due("5 none is left", STATE, () -> x.read(0));
        x.take(0);
        due("5 none is left", STATE, () -> x.read(0));
    }

    private static void idles() {
        SnowmeltStreams x = new SnowmeltStreams();
        due("6 no source", INDEX, () -> yes(x.idle(3, true)));
        due("6 no source", INDEX, () -> yes(x.idle(-1, false)));
        due("6 idle", 0, () -> yes(x.idle(1, true)));
        due("6 idle", 1, () -> yes(x.idle(1, true)));
        pass(x, 0, 30, 0, 1);
        due("6 the source 2 holds it back", -1, x::watermark);
        due("6 idle", 0, () -> yes(x.idle(2, true)));
        due("6 it is looked at at once", 30, x::watermark);
        due("6 and what is due is emitted", 0, x::uncommitted);
        pass(x, 2, 99, 0, 1);
        due("6 an idle one does not count", 30, x::watermark);
        x.idle(0, true);
        due("6 it stays if all are idle", 30, x::watermark);
        due("6 not idle", 1, () -> yes(x.idle(2, false)));
        due("6 the only one", 99, x::watermark);
        due("6 the window of 30 is emitted at once", 1, x::uncommitted);
        x.idle(1, false);
        due("6 it is never less than it was", 99, x::watermark);
    }

    private static void takes() {
        SnowmeltStreams x = alone(tumble(10, 5, true));
        due("7 no source", INDEX, () -> x.take(3));
        due("7 no source", INDEX, () -> x.take(-1));
        due("7 the channel is empty", STATE, () -> x.take(0));
        due("7 on time", SnowmeltStreams.EVENT, () -> pass(x, 0, 14, 0, 1));
        due("7 the watermark itself is not late", SnowmeltStreams.EVENT, () -> pass(x, 0, 14, 0, 1));
        due("7 late: 10 and 5 are above 14", SnowmeltStreams.LATE, () -> pass(x, 0, 9, 0, 1));
        pass(x, 0, 15, 0, 1);
        due("7 late, in an open window", SnowmeltStreams.LATE, () -> pass(x, 0, 14, 0, 1));
        due("7 dropped: 10 and 5 are not above 15", SnowmeltStreams.DROPPED, () -> pass(x, 0, 9, 0, 1));
        x.append(1, 3, 0, 1);
        x.read(1);
        x.append(1, 3, 0, 1);
        x.barrier();
        x.read(1);
        due("7 what is ahead of the barrier", SnowmeltStreams.DROPPED, () -> x.take(1));
        due("7 the barrier", SnowmeltStreams.BARRIER, () -> x.take(1));
        due("7 the channel waits", STATE, () -> x.take(1));
        due("7 the barrier", SnowmeltStreams.BARRIER, () -> x.take(0));
        due("7 the last one", SnowmeltStreams.LAST_BARRIER, () -> x.take(2));
        due("7 it does not wait any more", SnowmeltStreams.DROPPED, () -> x.take(1));
        due("7 the channel is empty", STATE, () -> x.take(1));
        due("7 no barrier is left", STATE, () -> x.take(2));

        SnowmeltStreams y = alone(new SnowmeltStreams());
        y.job(SnowmeltStreams.SLIDE, 10, 5, 0, 0, true);
        pass(y, 0, 12, 0, 1);
        due("7 late for one window, not for the other", SnowmeltStreams.LATE, () -> pass(y, 0, 7, 0, 4));
        due("7 it came to the window of 5", 5, () -> y.sumAt(0, 7));
        due("7 SLIDE dropped", SnowmeltStreams.DROPPED, () -> pass(y, 0, 4, 0, 4));

        SnowmeltStreams z = alone(new SnowmeltStreams());
        z.job(SnowmeltStreams.GAP, 10, 0, 5, 0, true);
        pass(z, 0, 20, 0, 1);
        pass(z, 0, 29, 0, 2);
        pass(z, 0, 40, 0, 4);
        due("7 GAP asks its own window: 25, 10 and 5 are not above 40", SnowmeltStreams.DROPPED,
                () -> pass(z, 0, 25, 0, 8));
        due("7 26, 10 and 5 are above 40", SnowmeltStreams.LATE, () -> pass(z, 0, 26, 0, 8));
        due("7 it is merged", 11, () -> z.sumAt(0, 20));
    }

    private static void barriers() {
        SnowmeltStreams x = alone(tumble(10, 0, true));
        due("8 none taken", 0, x::barrier);
        due("8 under way", STATE, x::barrier);
        x.take(0);
        x.take(1);
        due("8 under way", STATE, x::barrier);
        x.fail();
        due("8 it is gone with the failure", STATE, () -> x.take(2));
        due("8 none taken", 0, x::barrier);
        x.take(2);
        x.take(1);
        x.take(0);
        due("8 one", 1, x::barrier);
        x.fail();
        due("8 one, whatever failed since", 1, x::barrier);

        SnowmeltStreams y = alone(tumble(10, 0, false));
        due("8 at once", 1, y::barrier);
        due("8 none is in a channel", STATE, () -> y.take(0));
        due("8 at once", 2, y::barrier);
        y.fail();
        due("8 whatever failed since", 3, y::barrier);
    }

    private static void confirms() {
        SnowmeltStreams x = alone(tumble(10, 0, true));
        due("9 no snapshot", STATE, x::confirm);
        pass(x, 0, 1, 0, 5);
        pass(x, 0, 11, 0, 6);
        x.barrier();
        due("9 it is under way only", STATE, x::confirm);
        x.take(0);
        x.take(1);
        x.take(2);
        pass(x, 0, 21, 0, 7);
        due("9 the first snapshot's alone", 1, x::confirm);
        due("9 the other is open", 1, x::uncommitted);
        due("9 no snapshot since", STATE, x::confirm);
        align(x);
        pass(x, 0, 31, 0, 7);
        align(x);
        due("9 the last snapshot's, and all ahead", 3, x::confirm);
        align(x);
        due("9 nothing new", 3, x::confirm);
        align(x);
        x.fail();
        due("9 a failure since", STATE, x::confirm);
        align(x);
        x.workers(1);
        due("9 workers since", STATE, x::confirm);
    }

    private static void fails() {
        SnowmeltStreams x = alone(tumble(10, 0, true));
        due("10 at the beginning", 0, x::fail);
        pass(x, 0, 1, 0, 5);
        pass(x, 0, 11, 0, 6);
        due("10 no snapshot", 0, x::fail);
        due("10 as at the beginning", -1, x::watermark);
        due("10 as at the beginning", 0, () -> x.offset(0) + x.open(0) + x.uncommitted() + x.pairsAnew());
        x.read(0);
        x.take(0);
        x.read(0);
        x.take(0);
        x.append(0, 25, 0, 7);
        x.barrier();
        x.read(0);
        due("10 read behind the barrier", 1, () -> x.inChannel(0));
        x.take(0);
        x.take(1);
        x.take(2);
        x.take(0);
        due("10 two are emitted", 2, x::uncommitted);
        due("10 what was prepared is committed", 1, x::fail);
        due("10 what was open is gone", 0, x::uncommitted);
        due("10 the offset at the barrier", 2, () -> x.offset(0));
        due("10 the channel is empty", 0, () -> x.inChannel(0));
        due("10 the watermark", 11, x::watermark);
        dueResult("10", x, 0, 0, 1, 5, 10);
        due("10 what was appended stays", 1, () -> x.read(0));
        due("10 read again", SnowmeltStreams.EVENT, () -> x.take(0));
        due("10 emitted again", 1, x::uncommitted);
        x.fail();
        x.idle(0, true);
        x.idle(1, false);
        pass(x, 1, 45, 3, 1);
        due("10 by the source 1", 45, x::watermark);
        x.idle(0, false);
        x.idle(1, true);
        x.fail();
        due("10 the idle ones stay", 11, x::watermark);
        due("10 the idle ones stay", 1, () -> yes(x.idle(1, true)));

        SnowmeltStreams y = tumble(10, 0, false);
        pass(y, 0, 30, 0, 1);
        y.append(0, 31, 1, 2);
        y.append(0, 32, 1, 3);
        y.read(0);
        y.read(0);
        y.barrier();
        y.take(0);
        y.take(0);
        y.idle(1, true);
        y.idle(2, true);
        due("10 the last look emits nothing", 0, y::uncommitted);
        pass(y, 0, 60, 1, 3);
        due("10 all three", 2, y::uncommitted);
        y.fail();
        due("10 it is looked at at once, by the idle ones", 30, y::watermark);
        due("10 the snapshot has the channel", 2, () -> y.inChannel(0));
        due("10 and the offset", 3, () -> y.offset(0));
        due("10 the channel in its order", 0, () -> y.take(0) + (y.sumAt(1, 31) - 2));
        y.fail();
        due("10 once more", 2, () -> y.inChannel(0));

        SnowmeltStreams z = tumble(10, 0, false);
        pass(z, 0, 30, 0, 1);
        pass(z, 0, 5, 0, 1);
        z.barrier();
        z.idle(1, true);
        z.idle(2, true);
        due("10 one is emitted by idle", 1, z::uncommitted);
        due("10 nothing was prepared", 0, z::fail);
        due("10 it is emitted again at once", 1, z::uncommitted);
        dueNoResult("10 it is not committed", z, 0, 0);
    }

    private static void workers() {
        SnowmeltStreams x = alone(tumble(10, 0, true));
        due("11 no snapshot", STATE, () -> x.workers(2));
        due("11 the argument goes ahead", ARGUMENT, () -> x.workers(4));
        due("11 out of range", ARGUMENT, () -> x.workers(0));
        for (int key = 0; key < 6; key++) {
            pass(x, 0, 1, key, key);
        }
        align(x);
        pass(x, 0, 2, 0, 1);
        due("11 of 1 and 3", 4, () -> x.workers(3));
        due("11 as with a failure", 6, () -> x.offset(0));
        for (int worker = 0; worker < 3; worker++) {
            int w = worker;
            due("11 two keys each", 2, () -> x.open(w));
        }
        due("11 of 3 and 3", 0, () -> x.workers(3));
        due("11 of 3 and 2", 3, () -> x.workers(2));
        due("11 three keys each", 6, () -> x.open(0) + x.open(1));
        due("11 the first three", 3, () -> x.open(0));
        x.fail();
        due("11 no failure changes it", 3, () -> x.open(1));
        pass(x, 0, 2, 0, 1);
        due("11 the same number", 0, () -> x.workers(2));
        due("11 is as with a failure", 6, () -> x.offset(0));
        align(x);
        due("11 commits what was prepared", 3, () -> x.workers(1));
        due("11 no third", INDEX, () -> x.open(1));
    }

    private static void watermarks() {
        SnowmeltStreams x = new SnowmeltStreams();
        x.slack(1, 3);
        pass(x, 0, 20, 0, 1);
        pass(x, 1, 30, 0, 1);
        due("12 one has none", -1, x::watermark);
        pass(x, 2, 25, 0, 1);
        due("12 the least", 20, x::watermark);
        pass(x, 0, 40, 0, 1);
        due("12 the least", 25, x::watermark);
        pass(x, 2, 10, 0, 1);
        due("12 the greatest time counts", 25, x::watermark);
        pass(x, 2, 50, 0, 1);
        due("12 less the slack", 27, x::watermark);
        due("12 while it is in the channel", 27, () -> {
            x.append(1, 99, 0, 0);
            x.read(1);
            return x.watermark();
        });
        x.take(1);
        due("12 the least", 40, x::watermark);
        due("13", 40, () -> x.sourceWatermark(0));
        due("13 less the slack", 96, () -> x.sourceWatermark(1));
        due("13 the greatest", 50, () -> x.sourceWatermark(2));
        due("13 no source", INDEX, () -> x.sourceWatermark(3));
        due("13 no source", INDEX, () -> x.sourceWatermark(-1));
        SnowmeltStreams y = alone(new SnowmeltStreams());
        y.slack(0, 200);
        y.slack(1, 3);
        pass(y, 0, 100, 0, 1);
        due("13 -1 at least", -1, () -> y.sourceWatermark(0));
        due("12 -1 at least", -1, y::watermark);
        pass(y, 0, 300, 0, 1);
        due("12 it grows", 100, y::watermark);
        pass(y, 1, 50, 0, 1);
        due("13 an idle one, dropped", 47, () -> y.sourceWatermark(1));
        align(y);
        pass(y, 0, 400, 0, 1);
        due("13 it grows", 200, () -> y.sourceWatermark(0));
        y.fail();
        due("13 the snapshot has it", 100, () -> y.sourceWatermark(0));
        due("12 the snapshot has it", 100, y::watermark);
    }

    private static void offsets() {
        SnowmeltStreams x = new SnowmeltStreams();
        due("14 no source", INDEX, () -> x.offset(3));
        due("14 no source", INDEX, () -> x.offset(-1));
        due("15 no source", INDEX, () -> x.inChannel(3));
        due("15 no source", INDEX, () -> x.inChannel(-1));
        x.append(2, 1, 1, 1);
        x.append(2, 1, 1, 1);
        due("14 none read", 0, () -> x.offset(2));
        x.read(2);
        x.barrier();
        x.read(2);
        due("14 two", 2, () -> x.offset(2));
        due("15 no barrier counts", 2, () -> x.inChannel(2));
        x.take(2);
        due("14 still two", 2, () -> x.offset(2));
        due("15 one", 1, () -> x.inChannel(2));
        x.take(2);
        due("15 no barrier counts", 1, () -> x.inChannel(2));
        due("15 of another", 0, () -> x.inChannel(1));
    }

    private static void opens() {
        SnowmeltStreams x = alone(tumble(10, 5, true));
        due("16 no worker", INDEX, () -> x.open(1));
        due("16 no worker", INDEX, () -> x.open(-1));
        pass(x, 0, 3, 0, 1);
        pass(x, 0, 4, 1, 1);
        pass(x, 0, 13, 0, 1);
        due("16 three", 3, () -> x.open(0));
        pass(x, 0, 14, 0, 1);
        due("16 14 is less than 10 and 5", 3, () -> x.open(0));
        pass(x, 0, 15, 0, 1);
        due("16 15 is not", 1, () -> x.open(0));
        SnowmeltStreams y = alone(new SnowmeltStreams());
        y.job(SnowmeltStreams.GAP, 10, 0, 5, 0, true);
        pass(y, 0, 0, 0, 1);
        pass(y, 0, 24, 1, 1);
        due("16 GAP has the size once more", 2, () -> y.open(0));
        pass(y, 0, 25, 1, 1);
        due("16 25 is not less than 10, 5 and 10", 1, () -> y.open(0));
        SnowmeltStreams z = alone(new SnowmeltStreams());
        z.job(SnowmeltStreams.SLIDE, 8, 1, 0, 0, true);
        pass(z, 0, 3, 0, 1);
        due("16 none begins below 0", 4, () -> z.open(0));
        pass(z, 0, 7, 1, 1);
        due("16 eight at a moment", 12, () -> z.open(0));
    }

    private static void sums() {
        SnowmeltStreams x = alone(tumble(10, 0, true));
        due("17 no key", INDEX, () -> x.sumAt(6, 0));
        due("17 no key", INDEX, () -> x.sumAt(-1, 1201));
        due("17 out of range", ARGUMENT, () -> x.sumAt(0, 1201));
        due("17 out of range", ARGUMENT, () -> x.sumAt(0, -1));
        due("17 in range", NO_NUMBER, () -> x.sumAt(0, 1200));
        pass(x, 0, 5, 2, -7);
        pass(x, 0, 5, 2, -8);
        due("17 the sum", -15, () -> x.sumAt(2, 0));
        due("17 the sum", -15, () -> x.sumAt(2, 9));
        due("17 it has not its end", NO_NUMBER, () -> x.sumAt(2, 10));
        due("17 of another key", NO_NUMBER, () -> x.sumAt(1, 5));
        pass(x, 0, 10, 1, 1);
        due("17 it is not open any more", NO_NUMBER, () -> x.sumAt(2, 5));
        SnowmeltStreams y = alone(new SnowmeltStreams());
        y.job(SnowmeltStreams.SLIDE, 10, 4, 0, 0, true);
        pass(y, 0, 3, 0, 1);
        pass(y, 0, 9, 0, 2);
        due("17 the one that begins first", 3, () -> y.sumAt(0, 9));
        due("17 the first is past", 2, () -> y.sumAt(0, 10));
        pass(y, 0, 11, 0, 4);
        due("17 the first is not open", 6, () -> y.sumAt(0, 9));
        SnowmeltStreams z = alone(new SnowmeltStreams());
        z.job(SnowmeltStreams.GAP, 200, 0, 0, 0, true);
        pass(z, 0, 999, 0, 1);
        due("17 the last moment", 1, () -> z.sumAt(0, 1198));
        due("17 its end", NO_NUMBER, () -> z.sumAt(0, 1199));
    }

    private static void drops() {
        SnowmeltStreams x = alone(tumble(10, 0, true));
        due("18 none", 0, x::dropped);
        pass(x, 0, 10, 0, 1);
        pass(x, 0, 9, 0, 1);
        pass(x, 1, 9, 0, 1);
        due("18 two", 2, x::dropped);
        align(x);
        pass(x, 0, 9, 0, 1);
        due("18 three", 3, x::dropped);
        x.fail();
        due("18 the snapshot has it", 2, x::dropped);
    }

    private static void duePairs(String what, int want, SnowmeltStreams x) {
        due("19 " + what, want, x::pairs);
        due("20 " + what, want, x::pairsAnew);
    }

    private static void pairs() {
        SnowmeltStreams x = new SnowmeltStreams();
        x.job(SnowmeltStreams.TUMBLE, 10, 1, 200, 5, true);
        pass(x, 0, 50, 0, 1);
        pass(x, 1, 55, 0, 1);
        duePairs("5 apart", 1, x);
        pass(x, 1, 56, 0, 1);
        duePairs("6 apart", 1, x);
        pass(x, 1, 50, 1, 1);
        duePairs("another key", 1, x);
        pass(x, 2, 50, 0, 1);
        duePairs("the source 2 has none", 1, x);
        pass(x, 0, 60, 0, 1);
        duePairs("with both", 3, x);
        pass(x, 0, 50, 0, 1);
        duePairs("it is not late itself", 4, x);
        pass(x, 0, 49, 0, 1);
        duePairs("one that is late, though it comes to a window", 4, x);
        pass(x, 1, 49, 0, 1);
        duePairs("late ones", 4, x);
        pass(x, 1, 50, 0, 1);
        duePairs("none with those that were late", 6, x);
        align(x);
        pass(x, 1, 61, 0, 1);
        duePairs("one more", 7, x);
        x.fail();
        duePairs("the failure took it back", 6, x);
        x.read(1);
        x.take(1);
        duePairs("and it is found again", 7, x);
        SnowmeltStreams y = new SnowmeltStreams();
        y.job(SnowmeltStreams.TUMBLE, 10, 1, 0, 0, false);
        y.append(0, 3, 0, 1);
        y.append(1, 3, 0, 1);
        y.read(0);
        y.read(1);
        y.take(0);
        y.barrier();
        y.take(1);
        y.fail();
        duePairs("reach 0, the snapshot ahead of it", 0, y);
        y.take(1);
        duePairs("reach 0", 1, y);
        pass(y, 0, 4, 0, 1);
        duePairs("1 apart", 1, y);
    }

    private static void uncommitted() {
        SnowmeltStreams x = alone(tumble(10, 10, true));
        pass(x, 0, 1, 0, 1);
        pass(x, 0, 9, 1, 1);
        due("21 none", 0, x::uncommitted);
        pass(x, 0, 10, 1, 1);
        due("21 the watermark has come to the end of both", 2, x::uncommitted);
        pass(x, 0, 2, 0, 1);
        due("21 one is taken back, and one emitted", 4, x::uncommitted);
        pass(x, 0, 2, 3, 1);
        due("21 a new one, whose end is past", 5, x::uncommitted);
        align(x);
        due("21 prepared", 5, x::uncommitted);
        pass(x, 0, 3, 0, 1);
        due("21 prepared and open", 7, x::uncommitted);
        x.confirm();
        due("21 open", 2, x::uncommitted);
        x.fail();
        due("21 gone", 0, x::uncommitted);

        SnowmeltStreams y = alone(new SnowmeltStreams());
        y.job(SnowmeltStreams.GAP, 5, 0, 50, 0, false);
        pass(y, 0, 10, 0, 1);
        pass(y, 0, 20, 0, 1);
        pass(y, 0, 25, 0, 1);
        due("21 windows that only touch are two", 2, y::uncommitted);
        pass(y, 0, 30, 1, 1);
        due("21 all three", 3, y::uncommitted);
        pass(y, 0, 16, 0, 1);
        due("21 16 meets 20", 5, y::uncommitted);
        pass(y, 0, 14, 0, 1);
        due("21 14 meets 10 and 16", 8, y::uncommitted);
        pass(y, 0, 24, 0, 1);
        due("21 24 meets both", 11, y::uncommitted);
        pass(y, 0, 29, 0, 1);
        due("21 29 takes one back, and is not at its end", 12, y::uncommitted);
        pass(y, 0, 34, 1, 1);
        due("21 then it is", 13, y::uncommitted);
    }

    private static void results() {
        SnowmeltStreams x = alone(tumble(10, 10, true));
        int[][] bad = {{0, -1, 0}, {0, 1000, 0}, {0, 0, -1}, {0, 0, 3}};
        for (int[] b : bad) {
            due("22 out of range", ARGUMENT, () -> x.result(b[0], b[1], b[2]));
            due("23 out of range", ARGUMENT, () -> x.resultAnew(b[0], b[1], b[2]));
            due("22 the key goes ahead", INDEX, () -> x.result(6, b[1], b[2]));
            due("23 the key goes ahead", INDEX, () -> x.resultAnew(-1, b[1], b[2]));
        }
        dueNoResult("the last beginning", x, 5, 999);
        pass(x, 0, 1, 0, 5);
        pass(x, 0, 2, 1, 6);
        pass(x, 0, 10, 0, 7);
        dueNoResult("open", x, 0, 0);
        align(x);
        dueNoResult("prepared", x, 0, 0);
        pass(x, 0, 3, 0, 100);
        x.confirm();
        dueResult("committed", x, 0, 0, 1, 5, 10);
        dueResult("committed", x, 1, 0, 1, 6, 10);
        dueNoResult("it has not ended", x, 0, 10);
        dueNoResult("none begins there", x, 0, 1);
        dueNoResult("another key", x, 2, 0);
        align(x);
        dueResult("the mended one is prepared", x, 0, 0, 1, 5, 10);
        x.confirm();
        dueResult("the mended one", x, 0, 0, 2, 105, 10);
        pass(x, 0, 20, 0, 1);
        pass(x, 0, 4, 0, 50);
        align(x);
        x.confirm();
        dueResult("what was dropped does not count", x, 0, 0, 2, 105, 10);
        dueResult("the next", x, 0, 10, 1, 7, 20);

        SnowmeltStreams y = alone(new SnowmeltStreams());
        y.job(SnowmeltStreams.SLIDE, 10, 5, 0, 0, false);
        pass(y, 0, 12, 0, 1);
        pass(y, 0, 7, 0, 2);
        pass(y, 0, 20, 0, 4);
        y.barrier();
        y.confirm();
        dueNoResult("SLIDE the first was past", y, 0, 0);
        dueResult("SLIDE", y, 0, 5, 2, 3, 15);
        dueResult("SLIDE", y, 0, 10, 1, 1, 20);
        dueNoResult("SLIDE not at its end", y, 0, 15);

        SnowmeltStreams z = alone(new SnowmeltStreams());
        z.job(SnowmeltStreams.GAP, 5, 0, 20, 0, false);
        pass(z, 0, 10, 0, 1);
        pass(z, 0, 14, 0, 2);
        pass(z, 0, 22, 0, 4);
        z.barrier();
        pass(z, 0, 18, 0, 8);
        z.fail();
        dueResult("GAP committed by the failure", z, 0, 10, 2, 3, 19);
        dueNoResult("GAP merged", z, 0, 14);
        dueNoResult("GAP not at its end", z, 0, 22);
        z.read(0);
        z.take(0);
        z.barrier();
        z.confirm();
        dueNoResult("GAP taken back, the new one is not at its end", z, 0, 10);
        pass(z, 0, 28, 0, 16);
        z.barrier();
        z.workers(2);
        dueResult("GAP committed by the workers", z, 0, 10, 4, 15, 27);
        dueNoResult("GAP the last is not at its end", z, 0, 28);
        pass(z, 0, 26, 0, 32);
        pass(z, 0, 33, 0, 0);
        z.barrier();
        z.confirm();
        dueResult("GAP", z, 0, 10, 6, 63, 33);
        dueNoResult("GAP within another", z, 0, 28);
    }

    public static void main(String[] args) {
        newObject();
        jobs();
        slacks();
        appends();
        reads();
        idles();
        takes();
        barriers();
        confirms();
        fails();
        workers();
        watermarks();
        offsets();
        opens();
        sums();
        drops();
        pairs();
        uncommitted();
        results();
        System.out.println(wrong == 0 ? "all promises hold" : wrong + " answers are not as due");
        if (wrong != 0) {
            System.exit(1);
        }
    }
}
