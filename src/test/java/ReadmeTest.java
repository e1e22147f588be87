import java.io.IOException;
import java.nio.file.Files;
import java.nio.file.Path;
import java.util.ArrayList;
import java.util.List;
import java.util.TreeSet;
import java.util.regex.Matcher;
import java.util.regex.Pattern;

/** README.md's table has every call of the document, with its parameters and its promise, and no other. */
final class ReadmeTest {
    private static final Pattern PROMISE = Pattern.compile("## Promise (\\d+): .*");
    private static final Pattern CALL = Pattern.compile("`(?:int |void |)(\\w+)\\(([^)]*)\\).*");
    private static final Pattern ROW = Pattern.compile("\\| `(?:new )?(\\w+\\([^)]*\\))` \\| (\\d+) \\| .+ \\|");
    private static final Checks CHECKS = new Checks("ReadmeTest");

    public static void main(String[] args) throws IOException {
        TreeSet<String> due = promised(Files.readAllLines(Path.of("../shared/DOC.md")));
        TreeSet<String> got = told(Files.readAllLines(Path.of("README.md")));
        CHECKS.due("calls that the document promises", due.size(), 22);
        CHECKS.due("calls that README.md tells", got, due);
        CHECKS.end();
    }

    /** Each one as "promise call(parameters)"; the line of a call is the first one with code in its promise. */
    private static TreeSet<String> promised(List<String> document) {
        TreeSet<String> calls = new TreeSet<>();
        String promise = "";
        for (String line : document) {
            Matcher begin = PROMISE.matcher(line);
            Matcher call = CALL.matcher(line);
            if (begin.matches()) {
                promise = begin.group(1);
            } else if (!promise.isEmpty() && call.matches()) {
                calls.add(promise + " " + call.group(1) + "(" + withoutTypes(call.group(2)) + ")");
                promise = "";
            }
        }
        return calls;
    }

    private static String withoutTypes(String parameters) {
        List<String> names = new ArrayList<>();
        for (String parameter : parameters.split(", ")) {
            names.add(parameter.substring(parameter.indexOf(' ') + 1));
        }
        return String.join(", ", names);
    }

    private static TreeSet<String> told(List<String> readme) {
        TreeSet<String> calls = new TreeSet<>();
        for (String line : readme) {
            Matcher row = ROW.matcher(line);
            if (row.matches()) {
                calls.add(row.group(2) + " " + row.group(1));
            }
        }
        return calls;
    }
}
