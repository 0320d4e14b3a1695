import java.io.File;
import java.io.IOException;
import java.lang.reflect.Field;
import java.lang.reflect.Method;
import java.lang.reflect.Modifier;
import java.nio.file.Files;
import java.nio.file.Path;
import java.util.regex.Matcher;
import java.util.regex.Pattern;

/** What README.md says of the class: its examples answer so, and it tells all calls, constants and tests. */
public final class ReadmeTest {
    private static final Pattern EXAMPLE = Pattern.compile("(?s)```java\n(.*?)```");
    private static final String NEW_OBJECT = "LevelEquations x = new LevelEquations();";
    /** A call on x, and its answer: a number or the name of a constant. */
    private static final Pattern CALL = Pattern.compile("x\\.(\\w+)\\(([^)]*)\\); *// (-?\\d+|[A-Z]+)\\b.*");
    private static final Class<?> FACE = LevelEquations.class;
    private static final Check check = new Check("ReadmeTest");

    public static void main(String[] args) throws IOException, ReflectiveOperationException {
        String page = Files.readString(Path.of("README.md"));
        examples(page);
        check.part("README.md tells each constant with its value");
        constants(page);
        check.part("README.md tells each call of the document, with its arguments");
        calls(page);
        check.part("README.md tells each test");
        tests(page);
        check.end();
    }

    private static void examples(String page) throws ReflectiveOperationException {
        int found = 0;
        for (Matcher example = EXAMPLE.matcher(page); example.find();) {
            found++;
            check.part("README.md, example " + found);
            String[] lines = example.group(1).split("\n");
            check.holds("a new object is made", lines[0].equals(NEW_OBJECT));
            LevelEquations x = new LevelEquations();
            for (int t = 1; t < lines.length; t++) {
                answer(x, lines[t]);
            }
        }
        check.part("README.md has an example of its own and the document's three");
        check.due("examples", found, 4);
    }

    private static void answer(LevelEquations x, String line) throws ReflectiveOperationException {
        Matcher call = CALL.matcher(line);
        check.holds(line + " is a call with an answer", call.matches());
        if (!call.matches()) {
            return;
        }
        String[] texts = arguments(call.group(2));
        Object[] numbers = new Object[texts.length];
        for (int t = 0; t < texts.length; t++) {
            numbers[t] = Integer.valueOf(texts[t]);
        }
        Object answer = methodOf(call.group(1)).invoke(x, numbers);
        check.due(line, ((Number) answer).longValue(), answerOf(call.group(3)));
    }

    private static String[] arguments(String list) {
        return list.isEmpty() ? new String[0] : list.split(", ");
    }

    private static Method methodOf(String name) throws NoSuchMethodException {
        for (Method method : FACE.getDeclaredMethods()) {
            if (method.getName().equals(name)) {
                return method;
            }
        }
        throw new NoSuchMethodException(name);
    }

    private static long answerOf(String word) throws ReflectiveOperationException {
        return Character.isLetter(word.charAt(0)) ? ((Number) FACE.getField(word).get(null)).longValue() : Long.parseLong(word);
    }

    private static void constants(String page) throws IllegalAccessException {
        for (Field field : FACE.getFields()) {
            long value = ((Number) field.get(null)).longValue();
            String told = value == Long.MIN_VALUE ? "`Long.MIN_VALUE`" : String.valueOf(value);
            check.holds(field.getName(), page.contains("\n| `" + field.getName() + "` | " + told + " | "));
        }
    }

    private static void calls(String page) {
        for (Method method : FACE.getDeclaredMethods()) {
            if (Modifier.isPublic(method.getModifiers())) {
                Matcher row = Pattern.compile("\n\\| `" + method.getName() + "\\(([\\w, ]*)\\)` \\| ").matcher(page);
                check.holds(method + " has a row with its arguments",
                    row.find() && arguments(row.group(1)).length == method.getParameterCount());
            }
        }
    }

    private static void tests(String page) {
        String[] files = new File("src/test/java").list();
        check.holds("there are tests", files != null && files.length > 0);
        if (files == null) {
            return;
        }
        for (String file : files) {
            String name = file.replace(".java", "");
            check.holds(name, page.contains("`" + name + "`"));
        }
    }
}
