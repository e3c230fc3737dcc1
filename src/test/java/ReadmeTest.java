import java.io.IOException;
import java.lang.reflect.Method;
import java.lang.reflect.Modifier;
import java.nio.file.Files;
import java.nio.file.Path;
import java.util.regex.Matcher;
import java.util.regex.Pattern;

/** README.md: its example answers as it says, and it names every call. Run from the project's folder. */
public final class ReadmeTest {
    private static final Pattern TEXT = Pattern.compile("String text = \"([^\"]*)\";");
    private static final Pattern CALL = Pattern.compile("(?m)^x\\.(\\w+)\\(([-\\d, ]*)\\); +// (-?\\d+): ");

    public static void main(String[] args) throws IOException, ReflectiveOperationException {
        String page = Files.readString(Path.of("README.md"));
        example(page);
        everyCall(page);
        Check.end();
    }

    private static void example(String page) throws ReflectiveOperationException {
        Matcher text = TEXT.matcher(page);
        Check.due("the example has a text", 1, text.find() ? 1 : 0);
        RingArticles x = new RingArticles();
        Check.tell(x, text.group(1));
        Matcher calls = CALL.matcher(page);
        int found = 0;
        while (calls.find()) {
            found++;
            Check.due("README.md: " + calls.group(), Long.parseLong(calls.group(3)),
                answer(x, calls.group(1), calls.group(2)));
        }
        Check.due("calls whose answers the example tells", 15, found);
    }

    private static long answer(RingArticles x, String name, String list) throws ReflectiveOperationException {
        String[] words = list.isEmpty() ? new String[0] : list.split(", ");
        Class<?>[] types = new Class<?>[words.length];
        Object[] numbers = new Object[words.length];
        for (int i = 0; i < words.length; i++) {
            types[i] = int.class;
            numbers[i] = Integer.valueOf(words[i]);
        }
        return ((Number) RingArticles.class.getMethod(name, types).invoke(x, numbers)).longValue();
    }

    private static void everyCall(String page) {
        String table = page.substring(page.indexOf("### The calls"));
        for (Method method : RingArticles.class.getDeclaredMethods()) {
            if (Modifier.isPublic(method.getModifiers())) {
                Pattern named = Pattern.compile("`" + method.getName() + "\\(([^)]*)\\)`");
                Matcher matcher = named.matcher(table);
                boolean found = matcher.find();
                Check.due("README.md names " + method.getName(), 1, found ? 1 : 0);
                int numbers = found && !matcher.group(1).isEmpty() ? matcher.group(1).split(",").length : 0;
                Check.due("how many numbers " + method.getName() + " takes", method.getParameterCount(), numbers);
            }
        }
    }
}
