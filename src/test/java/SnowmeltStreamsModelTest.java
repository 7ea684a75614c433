import java.util.Random;

/** Runs of calls by a fixed seed; each answer and exception is compared with that of StreamsModel. */
public final class SnowmeltStreamsModelTest {
    private static int wrong = 0;

    private interface Call {
        int answer();
    }

    /** The answer, or the number of the exception; one that is not written in the document is rethrown. */
    private static int answerOf(Call call) {
        try {
            return call.answer();
        } catch (StreamsModel.Refused e) {
            return e.code;
        } catch (RuntimeException e) {
            return Refusal.of(e);
        }
    }

    private final Random random;
    private final int run;
    private final SnowmeltStreams streams = new SnowmeltStreams();
    private final StreamsModel model = new StreamsModel();
    private final StringBuilder story = new StringBuilder();
    private final int jitter;
    private final int pace;
    private final int keys;
    private int clock = 0;
    private boolean isGood = true;

    private SnowmeltStreamsModelTest(int run) {
        this.run = run;
        random = new Random(run * 7919L + 1);
        jitter = 1 + random.nextInt(run % 3 == 0 ? 200 : 40);
        pace = 1 + random.nextInt(run % 4 == 0 ? 40 : 8);
        keys = 1 + random.nextInt(6);
    }

    private void same(String call, Call real, Call due) {
        int got = answerOf(real);
        int want = answerOf(due);
        story.append(call).append(" -> ").append(Refusal.told(got)).append('\n');
        if (got != want && isGood) {
            isGood = false;
            wrong++;
            System.out.println("run " + run + ": " + call + " answered " + Refusal.told(got) + ", due is " + Refusal.told(want));
            if (wrong == 1) {
                System.out.println(story);
            }
        }
    }

    private int pick(int low, int high) {
        return low + random.nextInt(high - low + 1);
    }

    /** Mostly within the range, at times at its edges or past them. */
    private int around(int low, int high) {
        int dice = random.nextInt(60);
        if (dice == 0) {
            return low - 1;
        }
        if (dice == 1) {
            return high + 1;
        }
        if (dice == 2) {
            return random.nextBoolean() ? Integer.MIN_VALUE : Integer.MAX_VALUE;
        }
        return dice < 6 ? (random.nextBoolean() ? low : high) : pick(low, high);
    }

    private void settings() {
        for (int i = pick(0, 2); i > 0; i--) {
            int kind = around(0, 2);
            int size = random.nextBoolean() ? around(1, 30) : around(1, 200);
            int slide = random.nextInt(3) == 0 ? around(1, Math.max(1, size)) : Math.max(1, size / pick(1, 8));
            int grace = random.nextBoolean() ? 0 : around(0, random.nextBoolean() ? 20 : 200);
            int reach = around(0, 200);
            boolean aligns = random.nextBoolean();
            same("job(" + kind + ", " + size + ", " + slide + ", " + grace + ", " + reach + ", " + aligns + ")", () -> {
                streams.job(kind, size, slide, grace, reach, aligns);
                return 0;
            }, () -> model.job(kind, size, slide, grace, reach, aligns));
        }
        for (int i = pick(0, 3); i > 0; i--) {
            int source = around(0, 2);
            int slack = random.nextBoolean() ? around(0, 200) : pick(0, 10);
            same("slack(" + source + ", " + slack + ")", () -> streams.slack(source, slack),
                    () -> model.slack(source, slack));
        }
        for (int source = 0; source < 3; source++) {
            if (random.nextBoolean()) {
                idle(source, true);
            }
        }
    }

    private void idle(int source, boolean isIdle) {
        same("idle(" + source + ", " + isIdle + ")", () -> streams.idle(source, isIdle) ? 1 : 0,
                () -> model.idle(source, isIdle));
    }

    private void append() {
        int source = around(0, 2);
        clock = Math.min(999, clock + random.nextInt(pace));
        int time = random.nextInt(40) == 0 ? around(0, 999) : Math.max(0, Math.min(999, clock - random.nextInt(jitter)));
        int key = random.nextInt(50) == 0 ? around(0, 5) : random.nextInt(keys);
        int value = around(-1000, 1000);
        same("append(" + source + ", " + time + ", " + key + ", " + value + ")",
                () -> streams.append(source, time, key, value), () -> model.append(source, time, key, value));
    }

    private void flow() {
        int source = around(0, 2);
        if (random.nextInt(2) == 0) {
            same("read(" + source + ")", () -> streams.read(source), () -> model.read(source));
        } else {
            same("take(" + source + ")", () -> streams.take(source), () -> model.take(source));
        }
    }

    private void steer(int dice) {
        int source = around(0, 2);
        int workers = around(1, 3);
        if (dice < 3) {
            idle(source, random.nextBoolean());
        } else if (dice < 7) {
            same("barrier()", streams::barrier, model::barrier);
        } else if (dice < 9) {
            same("confirm()", streams::confirm, model::confirm);
        } else if (random.nextInt(3) == 0) {
            same("fail()", streams::fail, model::fail);
        } else if (random.nextInt(3) == 0) {
            same("workers(" + workers + ")", () -> streams.workers(workers), () -> model.workers(workers));
        }
    }

    private void ask() {
        int source = around(0, 2);
        int key = random.nextInt(20) == 0 ? around(0, 5) : random.nextInt(keys);
        int time = random.nextInt(20) == 0 ? around(0, 1200) : Math.max(0, clock - random.nextInt(jitter + 20));
        int start = random.nextInt(20) == 0 ? around(0, 999) : Math.max(0, clock - random.nextInt(2 * jitter + 40));
        int what = around(0, 2);
        switch (random.nextInt(9)) {
            case 0 -> same("watermark()", streams::watermark, model::watermark);
            case 1 -> same("sourceWatermark(" + source + ")", () -> streams.sourceWatermark(source),
                    () -> model.sourceWatermark(source));
            case 2 -> same("offset(" + source + ")", () -> streams.offset(source), () -> model.offset(source));
            case 3 -> same("inChannel(" + source + ")", () -> streams.inChannel(source), () -> model.inChannel(source));
            case 4 -> same("open(" + source + ")", () -> streams.open(source), () -> model.open(source));
            case 5 -> same("sumAt(" + key + ", " + time + ")", () -> streams.sumAt(key, time),
                    () -> model.sumAt(key, time));
            case 6 -> same("dropped()", streams::dropped, model::dropped);
            case 7 -> same("uncommitted()", streams::uncommitted, model::uncommitted);
            default -> same("result(" + key + ", " + start + ", " + what + ")",
                    () -> streams.result(key, start, what), () -> model.result(key, start, what));
        }
        if (random.nextBoolean()) {
            same("pairs()", streams::pairs, model::pairs);
            same("pairsAnew()", streams::pairsAnew, model::pairs);
        } else {
            same("resultAnew(" + key + ", " + start + ", " + what + ")",
                    () -> streams.resultAnew(key, start, what), () -> model.result(key, start, what));
        }
    }

    /** Every result both ways: the model finds each by all that was committed. */
    private void sweep() {
        for (int key = 0; key < keys; key++) {
            for (int start = 0; start < 1000; start += 1) {
                for (int what = 0; what < 3; what++) {
                    if (streams.result(key, start, what) != streams.resultAnew(key, start, what)) {
                        int k = key, s = start, w = what;
                        same("resultAnew(" + k + ", " + s + ", " + w + ")",
                                () -> streams.resultAnew(k, s, w), () -> streams.result(k, s, w));
                    }
                }
            }
        }
    }

    private void play() {
        settings();
        int appends = pick(0, 60);
        for (int i = 0; i < appends; i++) {
            append();
        }
        for (int i = 0; i < 300 && isGood; i++) {
            int dice = random.nextInt(100);
            if (dice < 8) {
                append();
            } else if (dice < 72) {
                flow();
            } else if (dice < 84) {
                steer(dice - 72);
            } else {
                ask();
            }
            if (random.nextInt(400) == 0) {
                settings();
            }
        }
        if (isGood) {
            sweep();
        }
    }

    public static void main(String[] args) {
        int runs = args.length > 0 ? Integer.parseInt(args[0]) : 1500;
        for (int run = 0; run < runs; run++) {
            new SnowmeltStreamsModelTest(run).play();
        }
        System.out.println(wrong == 0 ? runs + " runs are as the model's" : wrong + " runs are not as the model's");
        if (wrong != 0) {
            System.exit(1);
        }
    }
}
