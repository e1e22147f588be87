import java.io.IOException;
import java.nio.file.Files;
import java.nio.file.Path;
import java.util.ArrayList;
import java.util.HashSet;
import java.util.LinkedHashMap;
import java.util.List;
import java.util.Map;
import java.util.Set;

/**
 * Checks by the sentences of the document. Each test names the part and the sentence that it is of; a sentence that
 * the document does not have, one without a check, and one that no test names are faults.
 */
final class Sentences extends Checks {
    private static final Path DOCUMENT = Path.of("../shared/DOC.md");
    /** What names no case at all. */
    private static final Set<String> WITHOUT_CASES = Set.of(
            "Shapes, designs, machines, thread, orders and stitches come by calls; sequences, changes, jumps, pieces"
                    + " and waste are asked.",
            "Shapes, designs",
            "Machines, orders",
            "Ahead of the calls shape, wipe, design the interface says: ---- shapes, designs.",
            "Ahead of the calls machine, stock, order, start, run, snap, match, cancel the interface says:"
                    + " ---- machines, thread, orders.",
            "Ahead of the calls stitches, stitch, sequence, changes, changesAnew, jumps, ofOrder, shadeOf, ofMachine,"
                    + " left the interface says: ---- what is asked.");

    /** The document's sentences by its parts, without the marks of code. */
    private final Map<String, List<String>> parts = new LinkedHashMap<>();
    private final Set<String> named = new HashSet<>();
    private String part = "";
    private int checksAhead;

    Sentences(String test) throws IOException {
        super(test);
        if (Files.exists(DOCUMENT)) {
            read(Files.readAllLines(DOCUMENT));
        } else {
            System.out.println(DOCUMENT + " is not here, so the sentences are not looked up");
        }
        checksAhead = -1;
    }

    private void read(List<String> lines) {
        List<String> sentences = new ArrayList<>();
        for (String line : lines) {
            String plain = line.replace("`", "").strip();
            if (plain.startsWith("## ")) {
                sentences = new ArrayList<>();
                parts.put(plain.substring(3).split(":")[0], sentences);
            } else if (!plain.isEmpty() && !plain.startsWith("#")) {
                sentences.addAll(List.of(plain.split("(?<=\\.) ")));
            }
        }
    }

    /** Runs tests of sentences of a part. One that throws an exception ends, and is a fault of its sentence. */
    void part(String part, Runnable... tests) {
        this.part = part;
        for (Runnable test : tests) {
            try {
                test.run();
            } catch (RuntimeException thrown) {
                due("the test", "throws " + thrown, "no exception");
            }
            endSentence();
        }
    }

    /** The sentence, or the words of one, that the checks which follow are of. */
    void of(String words) {
        endSentence();
        about(part + ", '" + words + "'");
        if (!parts.isEmpty()) {
            boolean isThere = false;
            for (String sentence : parts.getOrDefault(part, List.of())) {
                if (sentence.contains(words)) {
                    named.add(part + sentence);
                    isThere = true;
                }
            }
            due("stands in the document", isThere ? 1 : 0, 1);
        }
        checksAhead = count();
    }

    private void endSentence() {
        if (checksAhead >= 0) {
            due("has a check of its own", count() > checksAhead ? 1 : 0, 1);
        }
        checksAhead = -1;
    }

    @Override
    void end() {
        about("the document");
        for (Map.Entry<String, List<String>> entry : parts.entrySet()) {
            for (String sentence : entry.getValue()) {
                if (hasCase(entry.getKey(), sentence)) {
                    boolean isNamed = named.contains(entry.getKey() + sentence);
                    due("a test of " + entry.getKey() + ", '" + sentence + "'", isNamed ? 1 : 0, 1);
                }
            }
        }
        super.end();
    }

    /** FaceTest looks at what 'The public face' has beside the constants. */
    private static boolean hasCase(String part, String sentence) {
        if (part.equals("The public face")) {
            return sentence.contains(" static final ");
        }
        boolean isPromised = part.equals("Terms") || part.startsWith("Promise ");
        boolean isOfCalls = part.equals("What it is") && sentence.contains("calls");
        return (isPromised || isOfCalls) && !WITHOUT_CASES.contains(sentence);
    }
}
