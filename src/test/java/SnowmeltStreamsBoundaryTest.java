import java.io.IOException;
import java.nio.file.Files;
import java.nio.file.Path;
import java.util.ArrayList;
import java.util.LinkedHashMap;
import java.util.List;
import java.util.Map;

/**
 * Plays the cases of src/test/cases, each of which quotes the sentence of the document that names its boundary.
 * No sentence of the document may be without a case, but for those that the files name as having no boundary.
 */
public final class SnowmeltStreamsBoundaryTest {
    private static final int MOST_CALLS = 512;
    /** Cases that are longer are not played again for each call that may be refused on their way. */
    private static final int SHORT = 60;
    private static int wrong = 0;

    private static void fault(String what) {
        wrong++;
        System.out.println(what);
    }

    // ---- the cases as they stand

    private static void play(Case c) {
        SnowmeltStreams x = new SnowmeltStreams();
        if (c.isOfBoundary == c.steps.isEmpty() || c.steps.size() > MOST_CALLS) {
            fault(c + ": it has " + c.steps.size() + " calls");
        }
        for (Case.Step step : c.steps) {
            int got = step.call.answerOf(x);
            if (!step.accepts(got)) {
                fault(c + ", line " + step.line + ": " + step.call.text + " answered " + Refusal.told(got) + ", due is "
                        + (step.due == null ? "no exception" : Refusal.told(step.due)));
            }
        }
    }

    // ---- the document's sentences

    private static Map<String, String> sectionsOf(Path document) throws IOException {
        Map<String, String> sections = new LinkedHashMap<>();
        String heading = "";
        for (String line : Files.readAllLines(document)) {
            if (line.startsWith("#")) {
                heading = line.replaceAll("^#+ ", "");
            } else if (!line.isBlank()) {
                sections.merge(heading, line.trim(), (text, more) -> text + "\n" + more);
            }
        }
        // It is held against the class itself by SnowmeltStreamsFaceTest.
        sections.remove("The public face");
        return sections;
    }

    private static void coverage(Map<String, String> sections, List<Case> cases) {
        for (Case c : cases) {
            if (!sections.getOrDefault(c.section, "").contains(c.quote)) {
                fault(c + ": the document does not say so there");
            }
        }
        for (Map.Entry<String, String> section : sections.entrySet()) {
            for (String sentence : section.getValue().split("\n|(?<=\\.) (?=[A-Z])")) {
                boolean isQuoted = false;
                for (Case c : cases) {
                    isQuoted |= c.section.equals(section.getKey()) && (sentence.contains(c.quote) || c.quote.contains(sentence));
                }
                if (!isQuoted) {
                    fault("no case quotes, in " + section.getKey() + ": " + sentence);
                }
            }
        }
    }

    // ---- a call that throws changes nothing

    private static List<Call> calls(String... texts) {
        List<Call> calls = new ArrayList<>();
        for (String text : texts) {
            calls.add(new Call(text));
        }
        return calls;
    }

    /** Calls that are refused in some states or in all. */
    private static List<Call> tries() {
        List<Call> calls = calls("job -1 10 5 7 9 false", "job 3 10 5 7 9 false", "job 0 0 5 7 9 false", "job 0 201 5 7 9 false",
                "job 2 50 5 -1 9 false", "job 2 50 5 201 9 false", "job 2 50 5 7 -1 true", "job 2 50 5 7 201 true",
                "job 1 50 0 7 9 true", "job 1 50 51 7 9 true", "job 1 50 6 7 9 true", "job 0 50 6 7 9 true",
                "job 2 50 6 7 9 false", "barrier", "confirm", "workers 0", "workers 4", "workers 2", "workers MIN",
                "sumAt 6 0", "sumAt -1 0", "sumAt 0 1201", "sumAt 0 -1", "open 3", "open -1", "open 1", "open 2");
        for (int source : new int[] {-1, 0, 1, 2, 3}) {
            calls.addAll(calls("slack " + source + " 201", "slack " + source + " -1", "slack " + source + " 9",
                    "append " + source + " 1000 0 1", "append " + source + " -1 0 1", "append " + source + " 9 6 1",
                    "append " + source + " 9 -1 1", "append " + source + " 9 0 1001", "append " + source + " 9 0 -1001",
                    "append " + source + " 9 0 1", "read " + source, "take " + source));
        }
        for (String source : new String[] {"-1", "3", "MIN", "MAX"}) {
            calls.addAll(calls("idle " + source + " true", "idle " + source + " false", "sourceWatermark " + source,
                    "offset " + source, "inChannel " + source));
        }
        for (String arguments : new String[] {"6 0 0", "-1 0 0", "0 1000 0", "0 -1 0", "0 0 3", "0 0 -1"}) {
            calls.addAll(calls("result " + arguments, "resultAnew " + arguments));
        }
        return calls;
    }

    /** What brings to light how an object stands. */
    private static List<Call> probe() {
        List<Call> questions = calls("watermark", "dropped", "pairs", "pairsAnew", "uncommitted", "open 0", "open 1", "open 2",
                "sumAt 0 3", "sumAt 0 9", "sumAt 0 20", "sumAt 5 3", "result 0 0 1", "resultAnew 0 0 1", "result 0 10 0",
                "resultAnew 0 10 0", "sourceWatermark 0", "sourceWatermark 1", "sourceWatermark 2", "offset 0", "offset 1",
                "offset 2", "inChannel 0", "inChannel 1", "inChannel 2");
        List<Call> calls = new ArrayList<>(questions);
        calls.addAll(calls("take 0", "take 1", "take 2", "read 0", "read 1", "read 2", "take 0", "take 1", "take 2", "take 0",
                "append 0 25 0 1", "append 1 25 0 2", "append 2 90 0 4", "read 0", "read 1", "read 2", "take 0", "take 1", "take 2"));
        calls.addAll(questions);
        calls.addAll(calls("confirm"));
        calls.addAll(questions);
        calls.addAll(calls("fail", "slack 0 3", "read 0", "take 0", "idle 0 true", "idle 1 false", "barrier", "workers 3"));
        calls.addAll(questions);
        return calls;
    }

    private static List<Integer> playAll(SnowmeltStreams x, List<Call> calls, int from) {
        List<Integer> answers = new ArrayList<>();
        for (Call call : calls.subList(from, calls.size())) {
            answers.add(call.answerOf(x));
        }
        return answers;
    }

    /** How many calls were refused somewhere on the way of this case. */
    private static int refusals(Case c, List<Call> tries, List<Call> probe) {
        List<Call> calls = new ArrayList<>();
        for (Case.Step step : c.steps) {
            calls.add(step.call);
        }
        calls.addAll(probe);
        List<Integer> due = playAll(new SnowmeltStreams(), calls, 0);
        int refused = 0;
        for (int at = 0; at <= c.steps.size(); at++) {
            for (Call tried : tries) {
                SnowmeltStreams x = new SnowmeltStreams();
                playAll(x, calls.subList(0, at), 0);
                if (Refusal.isOne(tried.answerOf(x))) {
                    refused++;
                    if (!playAll(x, calls, at).equals(due.subList(at, due.size()))) {
                        fault(c + ": " + tried.text + " is refused ahead of the call " + (at + 1) + ", and changes what follows");
                    }
                }
            }
        }
        return refused;
    }

    /** The arguments are the directory of the cases, and the document. */
    public static void main(String[] args) throws IOException {
        Path directory = Path.of(args.length > 0 ? args[0] : "src/test/cases");
        Path document = Path.of(args.length > 1 ? args[1] : "../shared/DOC.md");
        List<Case> cases = new ArrayList<>();
        for (String name : new String[] {"terms.txt", "promises.txt"}) {
            cases.addAll(Case.readAll(directory.resolve(name)));
        }
        cases.forEach(SnowmeltStreamsBoundaryTest::play);
        coverage(sectionsOf(document), cases);
        List<Call> tries = tries();
        List<Call> probe = probe();
        int played = 0;
        int refused = 0;
        for (Case c : cases) {
            if (c.isOfBoundary) {
                played++;
                refused += c.steps.size() <= SHORT ? refusals(c, tries, probe) : 0;
            }
        }
        System.out.println(played + " cases, and " + refused + " refused calls on their way: "
                + (wrong == 0 ? "all hold" : wrong + " faults"));
        if (wrong != 0) {
            System.exit(1);
        }
    }
}
