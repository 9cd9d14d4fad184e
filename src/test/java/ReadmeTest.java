import java.io.IOException;
import java.lang.reflect.Method;
import java.lang.reflect.Modifier;
import java.nio.file.Files;
import java.nio.file.Path;
import java.util.regex.Matcher;
import java.util.regex.Pattern;

/** What README.md tells of the class: its example answers so, and each call stands in one of its tables. */
public final class ReadmeTest {
    private static final Pattern EXAMPLE = Pattern.compile("files\\.(\\w+)\\(([^)]*)\\); +// (\\d+)");

    public static void main(String[] args) throws IOException {
        String text = Files.readString(Path.of("README.md"));
        example(text);
        for (Method method : QuorumFiles.class.getDeclaredMethods()) {
            if (Modifier.isPublic(method.getModifiers())) {
                Script.due("a row for " + method.getName(), text.contains("\n| `" + method.getName() + "(") ? 1 : 0, 1);
            }
        }
        Script.end();
    }

    private static void example(String text) {
        StringBuilder run = new StringBuilder();
        Matcher calls = EXAMPLE.matcher(text);
        int count = 0;
        while (calls.find()) {
            run.append(calls.group(1)).append('(').append(calls.group(2).replace("f", "1")).append(") = ").append(calls.group(3)).append('\n');
            count++;
        }
        Script.due("calls in the example", count, 6);
        Script.run("the example", run.toString());
    }
}
