import java.io.IOException;
import java.nio.file.Files;
import java.nio.file.Path;
import java.util.regex.Matcher;
import java.util.regex.Pattern;

/** The rules of ../shared/LANGUAGE.md that can be seen in the class's text. Run from the project's folder. */
public final class LanguageTest {
    private static final String[] FORBIDDEN = {
        "package", "import", "throw", "throws", "try", "catch", "finally", "synchronized", "assert", "instanceof",
        "double", "float", "protected", "volatile", "native", "Object", "Exception", "Error", "Thread", "Random",
        "System", "Runtime", "Class", "equals", "hashCode", "toString", "String",
    };

    public static void main(String[] args) throws IOException {
        String code = Files.readString(Path.of("src/main/java/RingArticles.java"))
            .replaceAll("(?s)/\\*.*?\\*/", "").replaceAll("//[^\n]*", "").replaceAll("'[^'\n]*'", "0");
        for (String word : FORBIDDEN) {
            Check.due("the word " + word, 0, count("\\b" + word + "\\b", code));
        }
        Check.due("lambdas and method references", 0, count("->|::", code));
        Check.due("names ending in Exact", 0, count("Exact\\b", code));
        Check.due("annotations", 0, count("@", code));
        Check.due("public members", 34, count("\\bpublic\\b", code));
        Check.due("classes, twelve at most", 1, count("\\bclass\\b", code) <= 12 ? 1 : 0);
        Check.due("classes that aren't static: the outer one", 1, count("(?<!static final )class\\b", code));
        methodsStayShort(code);
        Check.end();
    }

    private static void methodsStayShort(String code) {
        String[] lines = code.split("\n", -1);
        int began = -1;
        String indent = "";
        for (int i = 0; i < lines.length; i++) {
            String line = lines[i];
            if (line.matches(" +[^=;]*\\) \\{") && !line.matches(" +(\\}? ?else )?(if|for|while|switch) .*")) {
                began = i;
                indent = line.replaceAll("\\S.*", "");
                Check.due("parameters of " + line.trim(), 1, count(",", line) <= 6 ? 1 : 0);
            } else if (began >= 0 && line.equals(indent + "}")) {
                Check.due("60 lines at most: " + lines[began].trim(), 1, i - began <= 60 ? 1 : 0);
                began = -1;
            }
        }
    }

    private static int count(String pattern, String text) {
        Matcher matcher = Pattern.compile(pattern).matcher(text);
        int found = 0;
        while (matcher.find()) {
            found++;
        }
        return found;
    }
}
