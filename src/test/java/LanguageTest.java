import java.io.IOException;
import java.lang.reflect.Field;
import java.lang.reflect.Method;
import java.lang.reflect.Modifier;
import java.nio.file.Files;
import java.nio.file.Path;
import java.util.ArrayList;
import java.util.HashSet;
import java.util.List;
import java.util.Set;
import java.util.regex.Matcher;
import java.util.regex.Pattern;

/** What of LANGUAGE.md can be seen from the class and its text. Runs in the project's directory. */
public final class LanguageTest {
    private static final Path SOURCE = Path.of("src/main/java/PilotTugs.java");
    private static final Set<String> THROWN = Set.of("IllegalStateException",
            "IllegalArgumentException", "IndexOutOfBoundsException", "ArithmeticException");
    private static final Check CHECK = new Check();

    public static void main(String[] args) throws IOException {
        String text = bare(Files.readString(SOURCE));
        noForbiddenWords(text);
        throwsByRule6(text);
        onlyTheListedLibrary(text);
        methodsAreShort(text);
        classesAreSmall();
        membersAreAllowed();
        CHECK.end();
    }

    /** The text without comments, and without what stands inside written texts. */
    private static String bare(String text) {
        return text.replaceAll("(?s)/\\*.*?\\*/", "").replaceAll("//[^\n]*", "")
                .replaceAll("\"[^\"\n]*\"", "\"\"");
    }

    private static int times(String pattern, String text) {
        Matcher m = Pattern.compile(pattern).matcher(text);
        int n = 0;
        while (m.find()) {
            n++;
        }
        return n;
    }

    /** No library outside rule 4, no lambda, no machine exception answered, no state or clock. */
    private static void noForbiddenWords(String text) {
        for (String word : new String[] {"import", "package", "try", "catch", "finally", "assert",
            "synchronized", "volatile", "native", "Object", "Throwable", "Exception", "Error",
            "var", "goto", "protected", "double", "float"}) {
            CHECK.due(word, times("\\b" + word + "\\b", text), 0);
        }
        for (String sign : new String[] {"->", "::", "Exact\\(", "nanoTime", "currentTimeMillis",
            "random", "static \\{", "while \\(true\\)", "for \\(;;\\)", "@"}) {
            CHECK.due(sign, times(sign, text), 0);
        }
    }

    private static void throwsByRule6(String text) {
        Matcher m = Pattern.compile("\\bthrow\\b([^;]*);").matcher(text);
        int seen = 0;
        while (m.find()) {
            Matcher form = Pattern.compile(" new (\\w+)\\(\"\"\\)").matcher(m.group(1));
            CHECK.due("throw" + m.group(1), form.matches() && THROWN.contains(form.group(1)), true);
            seen++;
        }
        CHECK.due("there are throws", seen > 0, true);
    }

    private static void onlyTheListedLibrary(String text) {
        Set<String> own = new HashSet<>(Set.of("PilotTugs"));
        for (Class<?> inside : PilotTugs.class.getDeclaredClasses()) {
            own.add(inside.getSimpleName());
        }
        Matcher names = Pattern.compile("\\b([A-Z][a-z]\\w*)\\b").matcher(text);
        while (names.find()) {
            String name = names.group(1);
            boolean fine = own.contains(name) || THROWN.contains(name)
                    || Set.of("Integer", "Math", "System").contains(name);
            CHECK.due("the class " + name, fine, true);
        }
        Matcher calls = Pattern.compile("\\b(Integer|Math|System)\\.(\\w+)").matcher(text);
        while (calls.find()) {
            boolean fine = Set.of("Integer.bitCount", "Math.min", "System.arraycopy")
                    .contains(calls.group());
            CHECK.due(calls.group(), fine, true);
        }
    }

    /** Some sixty lines a method: from a line with its head to the brace at the same depth. */
    private static void methodsAreShort(String text) {
        String[] lines = text.split("\n");
        Pattern head = Pattern.compile("^( {4}| {8})(public |private |static |final )*\\w+(\\[\\])? ?\\w*\\(.*");
        int seen = 0;
        for (int i = 0; i < lines.length; i++) {
            Matcher m = head.matcher(lines[i]);
            if (!m.matches() || lines[i].trim().matches("(if|for|while|switch|return|throw)\\b.*")
                    || lines[i].endsWith(";")) {
                continue;
            }
            int end = i;
            while (end < lines.length && !lines[end].equals(m.group(1) + "}")) {
                end++;
            }
            CHECK.due("the lines of " + lines[i].trim(), end - i + 1 <= 60, true);
            seen++;
        }
        CHECK.due("all methods are seen", seen >= methods().size(), true);
    }

    private static List<Class<?>> classes() {
        List<Class<?>> all = new ArrayList<>(List.of(PilotTugs.class));
        all.addAll(List.of(PilotTugs.class.getDeclaredClasses()));
        return all;
    }

    private static List<Method> methods() {
        List<Method> all = new ArrayList<>();
        for (Class<?> one : classes()) {
            for (Method m : one.getDeclaredMethods()) {
                if (!m.isSynthetic()) {
                    all.add(m);
                }
            }
        }
        return all;
    }

    private static void classesAreSmall() {
        CHECK.due("some twelve classes", classes().size() <= 12, true);
        for (Class<?> one : classes()) {
            int fields = 0;
            for (Field f : one.getDeclaredFields()) {
                boolean isStatic = Modifier.isStatic(f.getModifiers());
                fields += isStatic ? 0 : 1;
                CHECK.due(f + " is no static state", !isStatic || isConstant(f), true);
            }
            CHECK.due(one + " has some twenty fields", fields <= 20, true);
            CHECK.due(one + " has no class inside", one == PilotTugs.class
                    || one.getDeclaredClasses().length == 0, true);
        }
    }

    private static boolean isConstant(Field f) {
        return Modifier.isFinal(f.getModifiers())
                && (f.getType() == int.class || f.getType() == long.class);
    }

    private static void membersAreAllowed() {
        Set<String> face = new HashSet<>();
        for (Method m : PilotTugs.class.getDeclaredMethods()) {
            if (Modifier.isPublic(m.getModifiers())) {
                face.add(m.getName());
            }
        }
        for (Method m : methods()) {
            boolean isFace = m.getDeclaringClass() == PilotTugs.class
                    && Modifier.isPublic(m.getModifiers());
            CHECK.due(m + " bears no public name", isFace || !face.contains(m.getName()), true);
            CHECK.due(m + " takes seven at most", m.getParameterCount() <= 7, true);
        }
        for (Class<?> inside : PilotTugs.class.getDeclaredClasses()) {
            int how = inside.getModifiers();
            CHECK.due(inside + " is static and not seen", Modifier.isStatic(how)
                    && !Modifier.isPublic(how) && !Modifier.isProtected(how), true);
        }
    }
}
