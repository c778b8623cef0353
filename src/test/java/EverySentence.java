import java.io.IOException;
import java.nio.file.DirectoryStream;
import java.nio.file.Files;
import java.nio.file.Path;
import java.util.ArrayList;
import java.util.LinkedHashMap;
import java.util.List;
import java.util.Map;
import java.util.regex.Matcher;
import java.util.regex.Pattern;

/**
 * Looks through the tests of single sentences (Bounds*): what each names must stand in that part of the document, and no
 * word of "Terms" and of the promises may be left that none of them names.
 */
public final class EverySentence {
    private static final Path DOCUMENT = Path.of("../shared/DOC.md");
    private static final Path TESTS = Path.of("src/test/java");
    private static final int PROMISES = 39;
    private static final String ONE_TEXT = "\"(?:[^\"\\\\]|\\\\.)*\"";
    private static final Pattern NAMED =
        Pattern.compile("\\bt\\.of\\((\\d+|\"[^\"]*\"),\\s*(" + ONE_TEXT + "(?:\\s*\\+\\s*" + ONE_TEXT + ")*)\\);");
    private static final Check c = new Check();

    public static void main(String[] args) throws IOException {
        Map<String, String> parts = parts(Files.readString(DOCUMENT));
        Map<String, List<String>> named = named();
        for (Map.Entry<String, List<String>> one : named.entrySet()) {
            for (String sentence : one.getValue()) {
                c.due(one.getKey() + " has: " + sentence, parts.getOrDefault(one.getKey(), "").contains(sentence), true);
            }
        }
        whole("Terms", parts, named);
        for (int k = 1; k <= PROMISES; k++) {
            whole("Promise " + k, parts, named);
        }
        c.due("promises", parts.keySet().stream().filter(p -> p.startsWith("Promise ")).count(), PROMISES);
        c.end();
    }

    /** The document's parts by their heads ("Promise 5" without its name), each as one line, without signatures. */
    private static Map<String, String> parts(String document) {
        Map<String, String> parts = new LinkedHashMap<>();
        for (String part : document.split("(?m)^## ")) {
            int end = part.indexOf('\n');
            String head = part.substring(0, Math.max(end, 0)).replaceFirst(":.*", "");
            String body = part.substring(Math.max(end, 0)).replace("```text", "").replace("```", "");
            body = body.replaceAll("\\s+", " ").trim();
            parts.put(head, head.startsWith("Promise ") ? body.replaceFirst("^`[^`]*`: ", "") : body);
        }
        return parts;
    }

    private static Map<String, List<String>> named() throws IOException {
        Map<String, List<String>> named = new LinkedHashMap<>();
        try (DirectoryStream<Path> tests = Files.newDirectoryStream(TESTS, "Bounds*.java")) {
            for (Path test : tests) {
                Matcher m = NAMED.matcher(Files.readString(test));
                while (m.find()) {
                    String part = m.group(1).startsWith("\"") ? m.group(1).replace("\"", "") : "Promise " + m.group(1);
                    named.computeIfAbsent(part, p -> new ArrayList<>()).add(textOf(m.group(2)));
                }
            }
        }
        return named;
    }

    /** What several texts of a source, with + between them, are together. */
    private static String textOf(String source) {
        StringBuilder all = new StringBuilder();
        Matcher m = Pattern.compile(ONE_TEXT).matcher(source);
        while (m.find()) {
            all.append(m.group(), 1, m.group().length() - 1);
        }
        return all.toString();
    }

    private static void whole(String part, Map<String, String> parts, Map<String, List<String>> named) {
        String body = parts.getOrDefault(part, "");
        c.due(part + " is there", !body.isEmpty(), true);
        boolean[] isNamed = new boolean[body.length()];
        for (String sentence : named.getOrDefault(part, List.of())) {
            int at = body.indexOf(sentence);
            for (int k = Math.max(at, 0); at >= 0 && k < at + sentence.length(); k++) {
                isNamed[k] = true;
            }
        }
        StringBuilder left = new StringBuilder();
        for (int k = 0; k < isNamed.length; k++) {
            if (!isNamed[k] && body.charAt(k) != ' ') {
                left.append(body.charAt(k));
            }
        }
        c.due("words of " + part + " that no test names", left.toString(), "");
    }
}
