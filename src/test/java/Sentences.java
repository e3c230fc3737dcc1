import java.io.IOException;
import java.nio.file.Files;
import java.nio.file.Path;
import java.util.LinkedHashMap;
import java.util.Map;

/**
 * The sentences of ../shared/DOC.md. A test names the sentence that it is for, in the document's own
 * words; a sentence that no test has named is told at the end. Run from the project's folder.
 */
final class Sentences {
    private static final Map<String, String> SECTIONS = read();
    private static final Map<String, boolean[]> NAMED = new LinkedHashMap<>();

    private Sentences() {
    }

    private static Map<String, String> read() {
        String document;
        try {
            document = Files.readString(Path.of("../shared/DOC.md"));
        } catch (IOException e) {
            throw new IllegalStateException("../shared/DOC.md can't be read", e);
        }
        Map<String, String> sections = new LinkedHashMap<>();
        for (String part : document.split("(?m)^## ")) {
            String title = part.split("\n", 2)[0].split(":")[0];
            if (title.equals("Terms") || title.startsWith("Promise ")) {
                sections.put(title, plain(part.substring(part.indexOf('\n'))));
            }
        }
        return sections;
    }

    /** Without what is no sentence: the marks of blocks and of chapters, and a promise's signature. */
    private static String plain(String text) {
        return text.replaceAll("(?m)^```.*$", " ").replaceAll("={8} \\d", " ")
            .replaceAll("^\\s*`[^`]*`: ", "").replaceAll("\\s+", " ").trim();
    }

    /** From here on the tests are for these words. */
    static void of(String section, String words) {
        name(section, words);
        Check.under(section + ", \"" + words + "\": ");
    }

    /** These words name no boundary case, so they need no test. */
    static void noEdge(String section, String words) {
        name(section, words);
    }

    private static void name(String section, String words) {
        String text = SECTIONS.getOrDefault(section, "");
        int place = text.indexOf(words);
        Check.under("");
        Check.due(section + " says \"" + words + "\"", 1, place >= 0 ? 1 : 0);
        boolean[] named = NAMED.computeIfAbsent(section, key -> new boolean[text.length()]);
        for (int i = 0; i < words.length() && place >= 0; i++) {
            named[place + i] = true;
        }
    }

    /** No word of the document may be left that no test named. */
    static void noneIsLeft() {
        Check.under("");
        Check.due("the document's sections", 32, SECTIONS.size());
        for (Map.Entry<String, String> section : SECTIONS.entrySet()) {
            String text = section.getValue();
            boolean[] named = NAMED.getOrDefault(section.getKey(), new boolean[text.length()]);
            StringBuilder left = new StringBuilder();
            for (int i = 0; i < text.length(); i++) {
                left.append(named[i] ? ' ' : text.charAt(i));
            }
            Check.due(section.getKey() + " has words without a test: " + left.toString().trim(), 0,
                left.toString().trim().length());
        }
    }
}
