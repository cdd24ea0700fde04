import java.io.IOException;
import java.lang.reflect.InvocationTargetException;
import java.lang.reflect.Method;
import java.nio.file.Files;
import java.nio.file.Path;
import java.util.HashMap;
import java.util.HashSet;
import java.util.Map;
import java.util.Set;
import java.util.regex.Matcher;
import java.util.regex.Pattern;

/** Does the calls of README.md's example; the answers that stand behind them are those due. */
public final class ReadmeTest {
    private static final Pattern CALL = Pattern.compile(
            "(int|boolean) (\\w+) = port\\.(\\w+)\\(([^)]*)\\); +// (-?\\d+|true|false)(:.*)?");

    private final Check check = new Check();
    private final PilotTugs port = new PilotTugs();
    private final Map<String, Integer> told = new HashMap<>();
    private final Set<String> called = new HashSet<>();

    public static void main(String[] args) throws IOException, ReflectiveOperationException {
        new ReadmeTest().run(Files.readString(Path.of("README.md")));
    }

    private void run(String readme) throws ReflectiveOperationException {
        int from = readme.indexOf("```java\n");
        int to = readme.indexOf("```\n", from + 1);
        String[] lines = readme.substring(from, to).split("\n");
        check.dueText("the first line", lines[1], "PilotTugs port = new PilotTugs();");
        for (int i = 2; i < lines.length; i++) {
            doLine(lines[i]);
        }
        for (Method m : PilotTugs.class.getDeclaredMethods()) {
            if (java.lang.reflect.Modifier.isPublic(m.getModifiers())) {
                check.due(m.getName() + " stands in the example", called.contains(m.getName()), true);
            }
        }
        check.end();
    }

    private void doLine(String line) throws ReflectiveOperationException {
        Matcher m = CALL.matcher(line);
        check.due("a line that can be read: " + line, m.matches(), true);
        if (!m.matches()) {
            return;
        }
        Object answer = answerOf(m.group(3), m.group(4).isEmpty() ? new String[0] : m.group(4).split(", "));
        check.dueText(line, String.valueOf(answer), m.group(5));
        check.dueText("the type in " + line, answer instanceof Boolean ? "boolean" : "int", m.group(1));
        if (answer instanceof Integer number) {
            told.put(m.group(2), number);
        }
        called.add(m.group(3));
    }

    private Object answerOf(String name, String[] words) throws ReflectiveOperationException {
        Class<?>[] types = new Class<?>[words.length];
        Object[] values = new Object[words.length];
        for (int i = 0; i < words.length; i++) {
            types[i] = int.class;
            values[i] = told.containsKey(words[i]) ? told.get(words[i]) : Integer.valueOf(words[i]);
        }
        try {
            return PilotTugs.class.getMethod(name, types).invoke(port, values);
        } catch (InvocationTargetException e) {
            return "throws." + e.getCause().getClass().getSimpleName();
        }
    }
}
