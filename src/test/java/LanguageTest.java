import java.io.IOException;
import java.lang.reflect.Field;
import java.lang.reflect.Method;
import java.lang.reflect.Modifier;
import java.nio.file.Files;
import java.nio.file.Path;
import java.util.Arrays;
import java.util.List;
import java.util.regex.Matcher;
import java.util.regex.Pattern;

/** The rules of LANGUAGE.md that a look at the text and the members of the class can tell. */
public final class LanguageTest {
    private static final Path SOURCE = Path.of("src/main/java/SevenPassImage.java");
    private static final List<String> LIBRARY = List.of("Arrays.fill", "Arrays.copyOf",
        "Arrays.copyOfRange", "Math.abs", "Math.max", "Math.min", "System.arraycopy");

    public static void main(String[] args) throws IOException {
        String text = Files.readString(SOURCE)
            .replaceAll("(?s)/\\*.*?\\*/", "").replaceAll("//[^\n]*", "");
        words(text);
        library(text);
        methodLengths(text);
        members();
        Checks.end();
    }

    /** Rules 2, 5, 6: what may not stand in the text at all. */
    private static void words(String text) {
        String[] wrong = {"\\bpackage\\b", "\\bthrows?\\b", "\\btry\\b", "\\bcatch\\b",
            "\\bfinally\\b", "\\bsynchronized\\b", "\\bassert\\b", "->", "::", "\\bstatic\\s*\\{",
            "\\bprotected\\b", "\\bvolatile\\b", "\\bnative\\b", "@", "\"",
            "\\bnew \\w+\\([^;]*\\{", "\\bMAX_VALUE\\b", "\\bvar\\b"};
        for (String one : wrong) {
            Matcher found = Pattern.compile(one).matcher(text);
            Checks.due("text like " + one, found.find() ? found.group() : "none", "none");
        }
    }

    /** Rule 4: what is called of the library, and what is imported. */
    private static void library(String text) {
        Matcher imports = Pattern.compile("import ([^;]*);").matcher(text);
        while (imports.find()) {
            Checks.due("import", imports.group(1), "java.util.Arrays");
        }
        String own = "";
        for (Class<?> nested : SevenPassImage.class.getDeclaredClasses()) {
            own += " " + nested.getSimpleName() + " ";
        }
        Matcher calls = Pattern.compile("(?<![.\\w])([A-Z][a-z]\\w*)\\.(\\w+)").matcher(text);
        while (calls.find()) {
            boolean right = own.contains(" " + calls.group(1) + " ")
                || LIBRARY.contains(calls.group());
            Checks.due("call of " + calls.group(), right, true);
        }
    }

    /** Rule 11: some sixty lines a method. */
    private static void methodLengths(String text) {
        List<String> lines = Arrays.asList(text.split("\n"));
        Pattern start = Pattern.compile("^( +)(public|private) [^=;]*\\(.*\\{$");
        for (int i = 0; i < lines.size(); i++) {
            Matcher method = start.matcher(lines.get(i));
            if (method.find()) {
                int end = i;
                while (!lines.get(end).equals(method.group(1) + "}")) {
                    end++;
                }
                Checks.due("length of " + lines.get(i).trim(), end - i <= 60, true);
            }
        }
    }

    /** Rules 1, 2, 5 and 11: members of the class and of those inside it. */
    private static void members() {
        Class<?>[] nested = SevenPassImage.class.getDeclaredClasses();
        Checks.due("classes", nested.length <= 11, true);
        look(SevenPassImage.class);
        for (Class<?> one : nested) {
            Checks.due(one + " has no classes", one.getDeclaredClasses().length, 0);
            look(one);
            for (Method method : one.getDeclaredMethods()) {
                boolean clash = Arrays.stream(SevenPassImage.class.getDeclaredMethods())
                    .anyMatch(face -> Modifier.isPublic(face.getModifiers())
                        && face.getName().equals(method.getName()));
                Checks.due(method + " bears the name of a public one", clash, false);
            }
        }
    }

    private static void look(Class<?> one) {
        int fields = 0;
        for (Field field : one.getDeclaredFields()) {
            int modifiers = field.getModifiers();
            fields += Modifier.isStatic(modifiers) ? 0 : 1;
            Checks.due(field + " is final if static",
                !Modifier.isStatic(modifiers) || Modifier.isFinal(modifiers), true);
        }
        Checks.due("fields of " + one, fields <= 20, true);
        for (Method method : one.getDeclaredMethods()) {
            Checks.due("parameters of " + method, method.getParameterCount() <= 7, true);
        }
    }
}
