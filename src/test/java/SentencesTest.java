import java.io.IOException;
import java.nio.file.Files;
import java.nio.file.Path;
import java.util.ArrayList;
import java.util.Arrays;
import java.util.List;
import java.util.Map;
import java.util.TreeMap;
import java.util.regex.Matcher;
import java.util.regex.Pattern;
import java.util.stream.Stream;

/** Each sentence of the Terms and of the promises is quoted by a test of its own; it runs in the project's folder. */
public final class SentencesTest extends Check {
    private static final Path TESTS = Path.of("src/test/java");
    private static final Pattern QUOTING =
        Pattern.compile("\\b(term|promise)\\((\\d+), ((?:\"(?:[^\"\\\\]|\\\\.)*\"\\s*\\+?\\s*)+)\\);");
    private static final Pattern STRING = Pattern.compile("\"((?:[^\"\\\\]|\\\\.)*)\"");
    /** What stands at the begin of a part and is no sentence: its heading, and of a promise the call's form. */
    private static final Pattern HEADING = Pattern.compile("^ (==== \\d\\.|## Promise \\d+: [\\w ]+ `[^`]*`:)");

    public static void main(String[] args) throws IOException {
        Map<String, List<String>> quotes = quotes();
        for (int n = 1; n <= 4; n++) {
            covered("==== " + n, quotes);
        }
        for (int n = 1; n <= 38; n++) {
            covered("## Promise " + n + ":", quotes);
        }
        due("no 39th promise", documentPart("## Promise 39:"), "");
        due("no fifth part", documentPart("==== 5"), "");
        finish();
    }

    /** The words that the tests quote, by the part of the document. */
    private static Map<String, List<String>> quotes() throws IOException {
        Map<String, List<String>> quotes = new TreeMap<>();
        try (Stream<Path> files = Files.list(TESTS)) {
            for (Path file : files.filter(f -> f.getFileName().toString().matches("Bounds\\w+\\.java")).toList()) {
                Matcher call = QUOTING.matcher(Files.readString(file));
                while (call.find()) {
                    String part = call.group(1).equals("term") ? "==== " + call.group(2) : "## Promise " + call.group(2) + ":";
                    quotes.computeIfAbsent(part, k -> new ArrayList<>()).add(joinedStrings(call.group(3)));
                }
            }
        }
        return quotes;
    }

    private static String joinedStrings(String source) {
        StringBuilder words = new StringBuilder();
        Matcher string = STRING.matcher(source);
        while (string.find()) {
            words.append(string.group(1).replace("\\\"", "\""));
        }
        return words.toString();
    }

    private static void covered(String part, Map<String, List<String>> quotes) {
        char[] left = documentPart(part).toCharArray();
        Matcher heading = HEADING.matcher(new String(left));
        due("the heading of " + part, heading.find(), true);
        Arrays.fill(left, 0, heading.end(), ' ');
        for (String words : quotes.getOrDefault(part, List.of())) {
            int from = documentPart(part).indexOf(words);
            while (from >= 0) {
                Arrays.fill(left, from, from + words.length(), ' ');
                from = documentPart(part).indexOf(words, from + words.length());
            }
        }
        due("no test quotes in " + part, new String(left).replace("```text", "").replace("```", "").trim(), "");
    }
}
