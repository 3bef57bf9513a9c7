import java.io.IOException;
import java.lang.reflect.Method;
import java.lang.reflect.Modifier;
import java.nio.charset.StandardCharsets;
import java.nio.file.Files;
import java.nio.file.Path;
import java.util.regex.Matcher;
import java.util.regex.Pattern;

/** What README.md tells of the class: its example, row by row, and its table of calls. */
public final class ReadmeTest {
    private static final Pattern ROW = Pattern.compile("heap\\.(\\w+\\(.*\\)); +// (-?\\w+)(:.*)?");

    public static void main(String[] args) throws IOException {
        String text = Files.readString(Path.of(System.getProperty("readme", "README.md")), StandardCharsets.UTF_8);
        example(text);
        table(text);
        Check.finish();
    }

    private static void example(String text) {
        Calls calls = new Calls();
        int start = text.indexOf("```java\n");
        int end = text.indexOf("```\n", start + 1);
        Check.due("an example", start >= 0 && end > start, true);
        for (String row : text.substring(start, end).split("\n")) {
            Matcher matcher = ROW.matcher(row);
            if (matcher.matches()) {
                String call = matcher.group(1).replace("NurseryHeap.", "");
                Check.due("README.md: " + call, calls.make(call), Calls.value(matcher.group(2)));
            } else {
                Check.due("a call without its answer: " + row, row.startsWith("heap."), false);
            }
        }
        Check.due("README.md has calls", calls.made > 0, true);
    }

    private static void table(String text) {
        int start = text.indexOf("| calls |");
        int end = text.indexOf("\n\n", Math.max(0, start));
        Check.due("a table of calls", start >= 0 && end > start, true);
        String table = text.substring(start, end);
        for (Method method : NurseryHeap.class.getDeclaredMethods()) {
            if (Modifier.isPublic(method.getModifiers())) {
                Check.due("told once: " + method.getName(), table.split("`" + method.getName() + "`", -1).length - 1, 1);
            }
        }
    }
}
