import java.io.IOException;
import java.nio.file.DirectoryStream;
import java.nio.file.Files;
import java.nio.file.Path;
import java.util.HashMap;
import java.util.LinkedHashMap;
import java.util.List;
import java.util.Map;
import java.util.Set;
import java.util.TreeSet;
import java.util.regex.Matcher;
import java.util.regex.Pattern;
import java.util.stream.Collectors;

/** What README.md says is so: its example, and its tables of calls, refusals and tests. Run at the root. */
public final class ReadmeTest {
    private static final String FIRST_LINE = "RoundThrow x = new RoundThrow();";
    private static final Pattern EXAMPLE =
            Pattern.compile("(?:int (\\w+) = )?x\\.(\\w+)\\((.*)\\); +// ([^:]+)(?::.*)?");
    private static final Pattern FACE = Pattern.compile("    public int (\\w+\\(.*\\));");
    private static final Pattern PROMISE = Pattern.compile("## Promise \\d+: (\\w+)\n\n(.*)\n");
    private static final Pattern CALL_ROW = Pattern.compile("\\| `(\\w+)(\\(.*\\))` \\| (.*) \\|");
    private static final Pattern REFUSAL_ROW = Pattern.compile("\\| `([A-Z]+)` \\((-\\d+)\\) \\| (.*) \\|");
    private static final Pattern TEST_ROW = Pattern.compile("\\| (\\w+Test) \\| .* \\|");

    private final List<String> lines;
    private final String document;

    private ReadmeTest() throws IOException {
        lines = Files.readAllLines(Path.of("README.md"));
        document = Files.readString(Path.of("../shared/DOC.md"));
    }

    public static void main(String[] args) throws IOException {
        ReadmeTest test = new ReadmeTest();
        test.exampleAnswersAsItSays();
        test.callsAreTheDocuments();
        test.refusalsAreTheDocuments();
        test.testsAreThere();
        Script.end();
    }

    private static void same(String what, Object got, Object want) {
        boolean same = got.equals(want);
        Script.due(what + (same ? "" : ": " + got + ", not " + want), same ? 1 : 0, 1);
    }

    private void exampleAnswersAsItSays() {
        int begin = lines.indexOf("```java");
        List<String> example = lines.subList(begin + 1, lines.lastIndexOf("```"));
        same("the example begins", example.get(0), FIRST_LINE);
        RoundThrow x = new RoundThrow();
        Map<String, String> variables = new HashMap<>();
        for (String line : example.subList(1, example.size())) {
            Matcher row = EXAMPLE.matcher(line);
            if (!row.matches()) {
                same("a line of the example", line, "a call with its answer");
                continue;
            }
            int answer = Script.call(x, words(row.group(2), row.group(3), variables));
            Script.due("README: " + line, answer, answer(row.group(4).strip()));
            if (row.group(1) != null) {
                variables.put(row.group(1), String.valueOf(answer));
            }
        }
    }

    /** A call's name and its numbers, which may be signs or variables. */
    private static String[] words(String name, String numbers, Map<String, String> variables) {
        if (numbers.isEmpty()) {
            return new String[] {name};
        }
        String[] words = (name + ", " + numbers).split(", ");
        for (int i = 1; i < words.length; i++) {
            boolean isSign = words[i].matches("'.'");
            words[i] = isSign ? String.valueOf((int) words[i].charAt(1)) : variables.getOrDefault(words[i], words[i]);
        }
        return words;
    }

    private static int answer(String text) {
        int sum = 0;
        for (String word : text.split(" \\+ ")) {
            sum += Script.number(word);
        }
        return sum;
    }

    private Map<String, String> promises() {
        Map<String, String> texts = new LinkedHashMap<>();
        Matcher promise = PROMISE.matcher(document);
        while (promise.find()) {
            texts.put(promise.group(1), promise.group(2));
        }
        return texts;
    }

    private Set<String> callsThatName(String constant) {
        Set<String> names = new TreeSet<>(promises().keySet());
        names.removeIf(name -> !promises().get(name).matches(".*\\b" + constant + "\\b.*"));
        return names;
    }

    /** The same calls with the same numbers in the same order, and NONE where the document has it. */
    private void callsAreTheDocuments() {
        List<String> face = document.lines().map(FACE::matcher).filter(Matcher::matches)
                .map(row -> row.group(1).replace("int ", "")).collect(Collectors.toList());
        List<Matcher> rows = lines.stream().map(CALL_ROW::matcher).filter(Matcher::matches)
                .collect(Collectors.toList());
        Script.due("calls of the document", face.size(), 27);
        same("calls", rows.stream().map(row -> row.group(1) + row.group(2)).collect(Collectors.toList()), face);
        Set<String> none = new TreeSet<>();
        for (Matcher row : rows) {
            if (row.group(3).contains("`NONE`")) {
                none.add(row.group(1));
            }
        }
        same("calls that answer NONE", none, callsThatName("NONE"));
    }

    private void refusalsAreTheDocuments() {
        StringBuilder order = new StringBuilder();
        for (String line : lines) {
            Matcher row = REFUSAL_ROW.matcher(line);
            if (row.matches()) {
                String name = row.group(1);
                order.append(' ').append(name);
                Script.due("README: " + name, Integer.parseInt(row.group(2)), Script.number(name));
                if (Set.of("STATE", "NO", "FULL").contains(name)) {
                    same("calls that answer " + name, callsNamed(row.group(3)), callsThatName(name));
                }
            }
        }
        same("refusals in order", order.toString(), " UNKNOWN OUTSIDE STATE NO FULL");
        String page = String.join(" ", lines);
        Script.due("NONE as told", page.contains("`NONE` (" + RoundThrow.NONE + ")") ? 1 : 0, 1);
        Script.due("GONE as told", page.contains("`GONE` (" + RoundThrow.GONE + ")") ? 1 : 0, 1);
        Script.due("for 512 calls", page.contains("for 512 calls") ? 1 : 0, 1);
    }

    private static Set<String> callsNamed(String text) {
        Set<String> names = new TreeSet<>();
        Matcher name = Pattern.compile("`(\\w+)`").matcher(text);
        while (name.find()) {
            names.add(name.group(1));
        }
        return names;
    }

    private void testsAreThere() throws IOException {
        Set<String> told = new TreeSet<>();
        for (String line : lines) {
            Matcher row = TEST_ROW.matcher(line);
            if (row.matches()) {
                told.add(row.group(1));
            }
        }
        Set<String> found = new TreeSet<>();
        try (DirectoryStream<Path> files = Files.newDirectoryStream(Path.of("src/test/java"), "*Test.java")) {
            for (Path file : files) {
                found.add(file.getFileName().toString().replace(".java", ""));
            }
        }
        same("tests", told, found);
    }
}
