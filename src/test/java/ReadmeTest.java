import java.io.IOException;
import java.lang.reflect.Method;
import java.lang.reflect.Modifier;
import java.nio.file.Files;
import java.nio.file.Path;
import java.util.List;
import java.util.regex.Matcher;
import java.util.regex.Pattern;

/** The examples of README.md are run, and its table is held against the class: what stands there is so. */
public final class ReadmeTest {
    private static final Pattern CALL = Pattern.compile("x\\.(\\w+)\\((.*)\\);\\s*// (-?\\d+|true|false)(:.*)?");
    private static final Pattern FEED = Pattern.compile("Due\\.feed\\(x, \"(.*)\"\\);");
    private static final String NEW = "TalkBridge x = new TalkBridge();";

    private ReadmeTest() {
    }

    public static void main(String[] args) throws IOException, ReflectiveOperationException {
        List<String> lines = Files.readAllLines(Path.of("README.md"));
        runExamples(lines);
        lookAtTable(lines);
        Due.due("README.md tells how to run the tests", lines.contains("    .ci/run"), true);
        Due.finish("ReadmeTest");
    }

    private static void runExamples(List<String> lines) throws ReflectiveOperationException {
        TalkBridge x = null;
        boolean inside = false;
        int examples = 0;
        for (String line : lines) {
            if (line.startsWith("```")) {
                inside = line.equals("```java");
                examples += inside ? 1 : 0;
            } else if (inside) {
                x = run(x, line);
            }
        }
        Due.due("examples of README.md", examples, 3);
    }

    /** Answers the object that the next line of the example is about. */
    private static TalkBridge run(TalkBridge x, String line) throws ReflectiveOperationException {
        Matcher feed = FEED.matcher(line);
        Matcher call = CALL.matcher(line);
        if (line.equals(NEW)) {
            return new TalkBridge();
        }
        if (feed.matches()) {
            Due.feed(x, feed.group(1));
        } else if (call.matches()) {
            Due.due(line, number(answer(x, call.group(1), call.group(2)).toString()), number(call.group(3)));
        } else {
            Due.due("a line that no one understands: " + line, false, true);
        }
        return x;
    }

    private static Object answer(TalkBridge x, String name, String written) throws ReflectiveOperationException {
        String[] words = written.isEmpty() ? new String[0] : written.split(", ");
        Method method = methodOf(name);
        Object[] values = new Object[words.length];
        for (int i = 0; i < words.length; i++) {
            if (method.getParameterTypes()[i] == boolean.class) {
                values[i] = Boolean.valueOf(words[i]);
            } else {
                values[i] = Integer.valueOf(words[i]);
            }
        }
        return method.invoke(x, values);
    }

    private static Method methodOf(String name) throws NoSuchMethodException {
        for (Method method : TalkBridge.class.getDeclaredMethods()) {
            if (Modifier.isPublic(method.getModifiers()) && method.getName().equals(name)) {
                return method;
            }
        }
        throw new NoSuchMethodException(name);
    }

    private static long number(String word) {
        if (word.equals("true") || word.equals("false")) {
            return word.equals("true") ? 1 : 0;
        }
        return Long.parseLong(word);
    }

    private static void lookAtTable(List<String> lines) {
        int start = lines.indexOf("| what for | methods |");
        int end = start + 1;
        while (end < lines.size() && lines.get(end).startsWith("|")) {
            end++;
        }
        String table = start < 0 ? "" : String.join("\n", lines.subList(start, end));
        for (Method method : TalkBridge.class.getDeclaredMethods()) {
            if (Modifier.isPublic(method.getModifiers())) {
                Due.due("the table of README.md has " + method.getName(), table.contains("`" + method.getName() + "`"), true);
            }
        }
    }
}
