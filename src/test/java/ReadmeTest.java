import java.io.IOException;
import java.lang.reflect.Method;
import java.lang.reflect.Modifier;
import java.nio.charset.StandardCharsets;
import java.nio.file.Files;
import java.nio.file.Path;
import java.util.regex.Matcher;
import java.util.regex.Pattern;

/** README.md names every method and constant, and the answers of its example are those of the program. */
final class ReadmeTest {
    private static final Path README = Path.of("README.md");
    /** A call with the answer that its comment begins with. */
    private static final Pattern CALL = Pattern.compile("(?m)^guard\\.((\\w+)\\((.*?)\\));\\s+// (-?\\d+)\\b");

    private ReadmeTest() {
    }

    static void run() {
        try {
            String text = Files.readString(README, StandardCharsets.UTF_8);
            dueNames(text);
            dueExample(text);
        } catch (IOException | ReflectiveOperationException e) {
            Check.holds("the README can be read and its calls be done: " + e, false);
        }
    }

    private static void dueNames(String text) {
        for (Method method : CraneGuard.class.getMethods()) {
            if (method.getDeclaringClass() == CraneGuard.class) {
                Check.holds("README names " + method.getName(), text.contains("`" + method.getName() + "("));
            }
        }
        for (var field : CraneGuard.class.getFields()) {
            boolean constant = Modifier.isStatic(field.getModifiers());
            Check.holds("README names " + field.getName(), constant && text.contains("`" + field.getName() + "`"));
        }
        Check.holds("README says how to run the tests", text.contains(".ci/run"));
    }

    private static void dueExample(String text) throws ReflectiveOperationException {
        int from = text.indexOf("```java");
        int to = text.indexOf("```", from + 3);
        String example = from < 0 || to < 0 ? "" : text.substring(from, to);
        CraneGuard guard = new CraneGuard();
        Matcher calls = CALL.matcher(example);
        int done = 0;
        while (calls.find()) {
            Object answer = methodNamed(calls.group(2)).invoke(guard, arguments(calls.group(3)));
            Check.due("README: " + calls.group(1), ((Number) answer).longValue(), Long.parseLong(calls.group(4)));
            done++;
        }
        Check.due("README: the calls of the example", done, example.lines().filter(s -> s.startsWith("guard.")).count());
        Check.holds("README: there is an example", done > 0);
    }

    private static Method methodNamed(String name) throws NoSuchMethodException {
        for (Method method : CraneGuard.class.getMethods()) {
            if (method.getName().equals(name)) {
                return method;
            }
        }
        throw new NoSuchMethodException(name);
    }

    private static Object[] arguments(String text) {
        if (text.isEmpty()) {
            return new Object[0];
        }
        String[] words = text.split(", ");
        Object[] values = new Object[words.length];
        for (int k = 0; k < words.length; k++) {
            values[k] = argument(words[k]);
        }
        return values;
    }

    private static Object argument(String word) {
        if (word.equals("true") || word.equals("false")) {
            return Boolean.valueOf(word);
        }
        return word.startsWith("'") ? Integer.valueOf(word.charAt(1)) : Integer.valueOf(word);
    }
}
