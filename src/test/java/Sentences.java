import java.io.IOException;
import java.nio.charset.StandardCharsets;
import java.nio.file.Files;
import java.nio.file.Path;
import java.util.LinkedHashMap;
import java.util.Map;

/**
 * The document's sentences, quoted word for word by the tests that stand for them. At the end they
 * are held against the document: each quote must stand in its section, and no word of what the
 * document promises may be left without a quote.
 */
final class Sentences {
    static final String TERMS = "Terms";
    private static final Path DOCUMENT = Path.of("../shared/DOC.md");
    /** Each quote with its section; no sentence is quoted for two tests. */
    private static final Map<String, String> SECTIONS = new LinkedHashMap<>();
    private static String last = "";

    private Sentences() {
    }

    /** What is asked from here on, up to the next call, stands for these words of a section. */
    static void stand(String section, String words) {
        int asked = Checks.standFor(section + ", \"" + words + "\"");
        if (!last.isEmpty()) {
            Checks.due("the test of \"" + last + "\" asks", Math.min(asked, 1), 1);
        }
        plain(section, words);
        last = words;
    }

    /** Words that say nothing that a call could answer otherwise. */
    static void plain(String section, String words) {
        Checks.due("quoted once", SECTIONS.containsKey(section + words) ? 0 : 1, 1);
        SECTIONS.put(section + words, section);
    }

    /** Run in the project's folder, as .ci/run does; where the document is not at hand, the quotes stay as they are. */
    static void holdAgainstDocument() throws IOException {
        Checks.standFor("");
        if (!Files.exists(DOCUMENT)) {
            System.out.println(DOCUMENT + " is not here: the quotes were not held against it");
            return;
        }
        Map<String, StringBuilder> left = sectionsOf(Files.readString(DOCUMENT, StandardCharsets.UTF_8));
        for (Map.Entry<String, String> quote : SECTIONS.entrySet()) {
            String words = quote.getKey().substring(quote.getValue().length());
            StringBuilder section = left.getOrDefault(quote.getValue(), new StringBuilder());
            int at = section.indexOf(words);
            Checks.due("\"" + words + "\" stands in " + quote.getValue(), at >= 0 ? 1 : 0, 1);
            if (at >= 0) {
                section.replace(at, at + words.length(), " | ");
            }
        }
        left.keySet().removeIf(name -> name.equals("The public face") || name.equals("Not promised"));
        left.forEach((name, rest) -> Checks.same("what no test stands for in " + name, rest.toString().replaceAll("[|\\s]+", " ").trim(), ""));
        System.out.println(SECTIONS.size() + " sentences, parts of sentences and rules are quoted");
    }

    /** By their headings, without the marks of the layout, the calls' own heads, and breaks of lines. */
    private static Map<String, StringBuilder> sectionsOf(String document) {
        Map<String, StringBuilder> sections = new LinkedHashMap<>();
        String[] parts = document.split("(?m)^## ");
        for (int i = 1; i < parts.length; i++) {
            int end = parts[i].indexOf('\n');
            String text = parts[i].substring(end).replaceAll("(?m)^```.*$", "")
                .replace("========", "").replaceAll("(?m)^`[^`]*`: ", "").replaceAll("\\s+", " ");
            sections.put(parts[i].substring(0, end).trim(), new StringBuilder(text));
        }
        return sections;
    }
}
