import java.io.IOException;
import java.nio.file.Files;
import java.nio.file.Path;
import java.util.ArrayList;
import java.util.Arrays;
import java.util.List;

/**
 * A run of calls on a new object, with the sentence of the document that it tests. README.md tells how the
 * files are written.
 */
final class Case {
    static final class Step {
        final Call call;
        /** The answer that is due, or null if any but an exception will do. */
        final Integer due;
        final int line;

        Step(Call call, Integer due, int line) {
            this.call = call;
            this.due = due;
            this.line = line;
        }

        boolean accepts(int answer) {
            return due == null ? !Refusal.isOne(answer) : due == answer;
        }
    }

    final String section;
    final String quote;
    /** A sentence that names no boundary has no steps. */
    final boolean isOfBoundary;
    final List<Step> steps = new ArrayList<>();
    private final Path file;
    private final int line;
    private String about = "";

    private Case(Path file, int line, String section, String quote, boolean isOfBoundary) {
        this.file = file;
        this.line = line;
        this.section = section;
        this.quote = quote;
        this.isOfBoundary = isOfBoundary;
    }

    @Override
    public String toString() {
        return file.getFileName() + ":" + line + ", " + section + ", \"" + quote + "\"" + (about.isEmpty() ? "" : ", " + about);
    }

    static List<Case> readAll(Path file) throws IOException {
        List<Case> cases = new ArrayList<>();
        String section = "";
        List<String> lines = Files.readAllLines(file);
        for (int i = 0; i < lines.size(); i++) {
            String text = lines.get(i).trim();
            if (text.startsWith("# ")) {
                section = text.substring(2);
            } else if (text.startsWith("> ") || text.startsWith("~ ")) {
                cases.add(new Case(file, i + 1, section, text.substring(2), text.startsWith("> ")));
            } else if (text.startsWith("-- ")) {
                cases.get(cases.size() - 1).about = text.substring(3);
            } else if (!text.isEmpty()) {
                cases.get(cases.size() - 1).addLine(text, i + 1);
            }
        }
        return cases;
    }

    private void addLine(String text, int at) {
        int times = 1;
        String calls = text;
        if (text.startsWith("repeat ")) {
            times = Integer.parseInt(text.substring("repeat ".length(), text.indexOf(':')));
            calls = text.substring(text.indexOf(':') + 1);
        }
        for (int i = 0; i < times; i++) {
            for (String call : calls.split(";")) {
                addCall(call.trim(), at);
            }
        }
    }

    private void addCall(String text, int at) {
        String[] equal = text.split(" = ");
        String[] refused = text.split(" ! ");
        String due = equal.length > 1 ? equal[1] : refused.length > 1 ? "! " + refused[1] : null;
        for (List<String> words : choices(refused.length > 1 ? refused[0] : equal[0])) {
            addWords(words, due, at);
        }
    }

    /** "read 0|2" is "read 0" and then "read 2". */
    private static List<List<String>> choices(String text) {
        List<List<String>> all = new ArrayList<>();
        all.add(new ArrayList<>());
        for (String word : text.split(" ")) {
            List<List<String>> longer = new ArrayList<>();
            for (List<String> begun : all) {
                for (String choice : word.split("\\|")) {
                    List<String> words = new ArrayList<>(begun);
                    words.add(choice);
                    longer.add(words);
                }
            }
            all = longer;
        }
        return all;
    }

    private void addWords(List<String> words, String due, int at) {
        switch (words.get(0)) {
            case "alone" -> {
                add("idle 1 true", null, at);
                add("idle 2 true", null, at);
            }
            case "pass" -> {
                add("append " + String.join(" ", words.subList(1, 5)), null, at);
                add("read " + words.get(1), null, at);
                add("take " + words.get(1), due, at);
            }
            case "align" -> {
                add("barrier", null, at);
                add("take 0", null, at);
                add("take 1", null, at);
                add("take 2", "LAST_BARRIER", at);
            }
            case "pair" -> {
                add("pairs", words.get(1), at);
                add("pairsAnew", words.get(1), at);
            }
            case "shown" -> {
                List<String> numbers = Arrays.asList(due.equals("none") ? "none none none".split(" ") : due.split(" "));
                for (int what = 0; what < numbers.size(); what++) {
                    String arguments = " " + words.get(1) + " " + words.get(2) + " " + what;
                    add("result" + arguments, numbers.get(what), at);
                    add("resultAnew" + arguments, numbers.get(what), at);
                }
            }
            default -> add(String.join(" ", words), due, at);
        }
    }

    private void add(String text, String due, int at) {
        steps.add(new Step(new Call(text), due == null ? null : dueOf(due), at));
    }

    private static int dueOf(String due) {
        return switch (due) {
            case "! Index" -> Refusal.INDEX;
            case "! Argument" -> Refusal.ARGUMENT;
            case "! State" -> Refusal.STATE;
            default -> Call.numberOf(due);
        };
    }
}
