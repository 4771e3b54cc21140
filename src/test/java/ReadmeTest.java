import java.io.IOException;
import java.lang.reflect.Field;
import java.lang.reflect.Method;
import java.lang.reflect.Modifier;
import java.nio.file.Files;
import java.nio.file.Path;
import java.util.regex.Matcher;
import java.util.regex.Pattern;

/** README.md: it tells of every call and constant, and its example answers what it says. */
public final class ReadmeTest {
    private static final String NEW_OBJECT = "SevenPassImage image = new SevenPassImage();";
    private static final Pattern LINE =
        Pattern.compile("image\\.(\\w+)\\((.*)\\); +// (-?\\w+)(: .*)?");

    public static void main(String[] args) throws ReflectiveOperationException, IOException {
        String text = Files.readString(Path.of("README.md"));
        String example = between(text, "```java\n", "```");
        tellsOfEveryMember(text, example);
        SevenPassImage image = null;
        for (String line : example.split("\n")) {
            if (line.equals(NEW_OBJECT)) {
                image = new SevenPassImage();
            } else {
                answersAsTold(image, line);
            }
        }
        Checks.end();
    }

    private static String between(String text, String start, String end) {
        int from = text.indexOf(start);
        int to = from < 0 ? -1 : text.indexOf(end, from + start.length());
        Checks.due("README.md has " + start.trim(), to >= 0, true);
        return to < 0 ? "" : text.substring(from + start.length(), to);
    }

    private static void tellsOfEveryMember(String text, String example) {
        for (Method method : SevenPassImage.class.getDeclaredMethods()) {
            if (Modifier.isPublic(method.getModifiers())) {
                String call = method.getName() + "(";
                String entry = "\n- `" + method.getReturnType() + " " + call;
                Checks.due("README.md tells of " + call, text.contains(entry), true);
                Checks.due("the example has " + call, example.contains("image." + call), true);
            }
        }
        for (Field field : SevenPassImage.class.getDeclaredFields()) {
            if (Modifier.isPublic(field.getModifiers())) {
                Checks.due("README.md tells of " + field.getName(),
                    text.contains("`" + field.getName() + "`"), true);
            }
        }
        Checks.due("README.md tells of the 512 calls", text.contains("512 calls"), true);
    }

    private static void answersAsTold(SevenPassImage image, String line)
        throws ReflectiveOperationException {
        Matcher parts = LINE.matcher(line);
        boolean told = image != null && parts.matches();
        Checks.due("an object, a call and its answer in: " + line, told, true);
        if (told) {
            Object got = method(parts.group(1)).invoke(image, arguments(parts.group(2)));
            Checks.due(line, String.valueOf(got), String.valueOf(value(parts.group(3))));
        }
    }

    private static Method method(String name) throws NoSuchMethodException {
        for (Method method : SevenPassImage.class.getDeclaredMethods()) {
            if (method.getName().equals(name)) {
                return method;
            }
        }
        throw new NoSuchMethodException(name);
    }

    private static Object[] arguments(String text) throws ReflectiveOperationException {
        if (text.isEmpty()) {
            return new Object[0];
        }
        String[] words = text.split(", ");
        Object[] values = new Object[words.length];
        for (int i = 0; i < words.length; i++) {
            values[i] = value(words[i]);
        }
        return values;
    }

    /** A boolean, a number or one of the class's constants. */
    private static Object value(String word) throws ReflectiveOperationException {
        if (word.equals("true") || word.equals("false")) {
            return word.equals("true");
        }
        if (word.matches("[A-Z]+")) {
            return SevenPassImage.class.getField(word).getInt(null);
        }
        return Integer.valueOf(word);
    }
}
