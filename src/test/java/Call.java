import java.util.Arrays;
import java.util.List;

/** A call told by words, as in "append 0 5 1 10". An answer is a number; an exception is one too, far from all others. */
final class Call {
    static final int NO_NUMBER = -1000000;
    private static final List<String> CONSTANTS = List.of("TUMBLE", "SLIDE", "GAP", "EVENT", "LATE", "DROPPED", "BARRIER",
            "LAST_BARRIER");
    private static final List<Integer> NUMBERS = List.of(0, 1, 2, 0, 1, 2, 3, 4);

    final String text;
    private final String name;
    private final int[] n;

    Call(String text) {
        this.text = text;
        String[] words = text.split(" ");
        name = words[0];
        n = name.equals("constant") ? new int[0]
                : Arrays.stream(words).skip(1).mapToInt(Call::numberOf).toArray();
    }

    static int numberOf(String word) {
        int constant = CONSTANTS.indexOf(word);
        if (constant >= 0) {
            return NUMBERS.get(constant);
        }
        return switch (word) {
            case "true" -> 1;
            case "false" -> 0;
            case "none" -> NO_NUMBER;
            case "MIN" -> Integer.MIN_VALUE;
            case "MAX" -> Integer.MAX_VALUE;
            default -> Integer.parseInt(word);
        };
    }

    /** The answer, true as 1 and no answer as 0; an exception that the document does not know goes on. */
    int answerOf(SnowmeltStreams x) {
        try {
            return call(x);
        } catch (RuntimeException e) {
            return Refusal.of(e);
        }
    }

    private int call(SnowmeltStreams x) {
        return switch (name) {
            case "job" -> {
                x.job(n[0], n[1], n[2], n[3], n[4], n[5] == 1);
                yield 0;
            }
            case "slack" -> x.slack(n[0], n[1]);
            case "append" -> x.append(n[0], n[1], n[2], n[3]);
            case "read" -> x.read(n[0]);
            case "idle" -> x.idle(n[0], n[1] == 1) ? 1 : 0;
            case "take" -> x.take(n[0]);
            case "barrier" -> x.barrier();
            case "confirm" -> x.confirm();
            case "fail" -> x.fail();
            case "workers" -> x.workers(n[0]);
            default -> ask(x);
        };
    }

    private int ask(SnowmeltStreams x) {
        return switch (name) {
            case "watermark" -> x.watermark();
            case "sourceWatermark" -> x.sourceWatermark(n[0]);
            case "offset" -> x.offset(n[0]);
            case "inChannel" -> x.inChannel(n[0]);
            case "open" -> x.open(n[0]);
            case "sumAt" -> x.sumAt(n[0], n[1]);
            case "dropped" -> x.dropped();
            case "pairs" -> x.pairs();
            case "pairsAnew" -> x.pairsAnew();
            case "uncommitted" -> x.uncommitted();
            case "result" -> x.result(n[0], n[1], n[2]);
            case "resultAnew" -> x.resultAnew(n[0], n[1], n[2]);
            case "constant" -> constant();
            default -> throw new AssertionError("no such call: " + text);
        };
    }

    private int constant() {
        return switch (text.substring("constant ".length())) {
            case "NONE" -> SnowmeltStreams.NONE;
            case "TUMBLE" -> SnowmeltStreams.TUMBLE;
            case "SLIDE" -> SnowmeltStreams.SLIDE;
            case "GAP" -> SnowmeltStreams.GAP;
            case "EVENT" -> SnowmeltStreams.EVENT;
            case "LATE" -> SnowmeltStreams.LATE;
            case "DROPPED" -> SnowmeltStreams.DROPPED;
            case "BARRIER" -> SnowmeltStreams.BARRIER;
            case "LAST_BARRIER" -> SnowmeltStreams.LAST_BARRIER;
            default -> throw new AssertionError("no such constant: " + text);
        };
    }
}
