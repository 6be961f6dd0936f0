import java.io.IOException;
import java.lang.reflect.Method;
import java.nio.file.Files;
import java.nio.file.Path;
import java.util.Arrays;
import java.util.HashMap;
import java.util.Map;
import java.util.regex.Matcher;
import java.util.regex.Pattern;

/**
 * The example of README.md: its lines are called one after the other, and a number that begins the
 * comment behind a call is the answer that is due. It runs in the project's directory.
 */
public final class ReadmeTest {
    private static final Pattern LINE =
        Pattern.compile("(?:int (\\w+) = )?trees\\.(\\w+)\\((.*?)\\);(?: *// (?:(-?\\d+)\\b)?.*)?");

    private static final Check CHECK = new Check();

    private final CoverTrees trees = new CoverTrees();
    private final Map<String, Integer> names = new HashMap<>();
    private int compared = 0;

    public static void main(String[] args) throws IOException, ReflectiveOperationException {
        String text = Files.readString(Path.of("README.md"));
        int from = text.indexOf("CoverTrees trees = new CoverTrees();");
        int to = text.indexOf("```", from);
        CHECK.due("README.md has its example", from >= 0 && to >= 0 ? 1 : 0, 1);
        if (from >= 0 && to >= 0) {
            new ReadmeTest().run(text.substring(from, to).split("\n"));
        }
        CHECK.end();
    }

    private void run(String[] lines) throws ReflectiveOperationException {
        for (int i = 1; i < lines.length; i++) {
            Matcher line = LINE.matcher(lines[i]);
            CHECK.due("a line that is a call: " + lines[i], line.matches() ? 1 : 0, 1);
            if (line.matches()) {
                call(line);
            }
        }
        CHECK.due("README.md tells answers", compared > 0 ? 1 : 0, 1);
    }

    private void call(Matcher line) throws ReflectiveOperationException {
        Object[] arguments = values(line.group(3));
        Class<?>[] types = new Class<?>[arguments.length];
        Arrays.fill(types, int.class);
        Method method = CoverTrees.class.getMethod(line.group(2), types);
        Object answer = method.invoke(trees, arguments);
        if (line.group(1) != null) {
            names.put(line.group(1), (Integer) answer);
        }
        if (line.group(4) != null) {
            compared++;
            CHECK.dueText("README.md: " + line.group(), String.valueOf(answer), line.group(4));
        }
    }

    private Object[] values(String arguments) {
        String[] words = arguments.isEmpty() ? new String[0] : arguments.split(", *");
        Object[] values = new Object[words.length];
        for (int i = 0; i < words.length; i++) {
            Integer named = names.get(words[i]);
            values[i] = named != null ? named : Integer.valueOf(words[i]);
        }
        return values;
    }
}
