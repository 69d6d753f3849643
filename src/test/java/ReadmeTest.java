import java.lang.reflect.Method;
import java.lang.reflect.Modifier;
import java.nio.charset.StandardCharsets;
import java.nio.file.Files;
import java.nio.file.Path;
import java.util.regex.Matcher;
import java.util.regex.Pattern;

/** What README.md shows is so: the calls of its example, made on one object, answer what stands behind them. */
public final class ReadmeTest {
    private static final Pattern CALL = Pattern.compile("keeper\\.(\\w+)\\(([-0-9, ]*)\\);\\s*// (-?\\d+)(:.*)?");

    public static void main(String[] args) throws Exception {
        String readme = Files.readString(Path.of("README.md"), StandardCharsets.UTF_8);
        int begin = readme.indexOf("```java\n");
        int end = readme.indexOf("```", begin + 3);
        Dues.holds("README.md has an example", begin >= 0 && end > begin);
        if (begin >= 0 && end > begin) {
            example(readme.substring(begin, end));
        }
        everyCallIsNamed(readme);
        Dues.end("ReadmeTest");
    }

    private static void example(String text) throws Exception {
        LessonCards keeper = new LessonCards();
        int calls = 0;
        for (String line : text.split("\n")) {
            Matcher call = CALL.matcher(line);
            if (call.matches()) {
                Dues.due(line, made(keeper, call.group(1), call.group(2)), Long.parseLong(call.group(3)));
                calls++;
            } else {
                Dues.holds("a call with its answer: " + line, !line.startsWith("keeper"));
            }
        }
        Dues.holds("calls were made", calls > 0);
    }

    private static long made(LessonCards keeper, String name, String numbers) throws Exception {
        String[] texts = numbers.isBlank() ? new String[0] : numbers.split(",");
        Object[] arguments = new Object[texts.length];
        Class<?>[] types = new Class<?>[texts.length];
        for (int i = 0; i < texts.length; i++) {
            arguments[i] = Integer.parseInt(texts[i].trim());
            types[i] = int.class;
        }
        return ((Number) LessonCards.class.getMethod(name, types).invoke(keeper, arguments)).longValue();
    }

    private static void everyCallIsNamed(String readme) {
        for (Method method : LessonCards.class.getDeclaredMethods()) {
            if (method.getModifiers() == Modifier.PUBLIC) {
                Dues.holds("README.md names " + method.getName(), readme.contains("`" + method.getName() + "`"));
            }
        }
    }
}
