import java.lang.reflect.Constructor;
import java.lang.reflect.Field;
import java.lang.reflect.Method;
import java.lang.reflect.Modifier;
import java.util.Arrays;
import java.util.HashSet;
import java.util.Set;
import java.util.TreeSet;

/** The public face: the document's constants, constructor and methods, and nothing else. */
public final class FaceTest {
    private static final String[] METHODS = {
        "boolean append(int)", "boolean begin(int, int, int, int)", "boolean poke(int, int)",
        "boolean seal(int)", "boolean set(int, int, int, int)", "boolean trim(int)",
        "int byteAt(int)", "int copies()", "int get(int, int, int)", "int length()", "int read()",
        "int rows(int)", "int shape()", "int write(boolean, int)"};

    public static void main(String[] args) {
        constants();
        members();
        nestedClasses();
        Checks.end();
    }

    private static void constants() {
        Checks.due("NONE", SevenPassImage.NONE, -1);
        Checks.due("FRAME", SevenPassImage.FRAME, -2);
        Checks.due("HEADER", SevenPassImage.HEADER, -3);
        Checks.due("STREAM", SevenPassImage.STREAM, -4);
        Checks.due("ROWS", SevenPassImage.ROWS, -5);
        Set<String> open = new TreeSet<>();
        for (Field field : SevenPassImage.class.getDeclaredFields()) {
            if (!Modifier.isPrivate(field.getModifiers())) {
                open.add(Modifier.toString(field.getModifiers()) + " " + field.getName());
            }
        }
        Checks.due("fields not private: " + open, open.size(), 5);
        for (String name : Arrays.asList("NONE", "FRAME", "HEADER", "STREAM", "ROWS")) {
            Checks.due(name, open.contains("public static final " + name), true);
        }
    }

    private static void members() {
        int type = SevenPassImage.class.getModifiers();
        Checks.due("public and final", type, Modifier.PUBLIC | Modifier.FINAL);
        Set<String> open = new TreeSet<>();
        Set<String> openNames = new HashSet<>();
        Set<String> hiddenNames = new HashSet<>();
        for (Method method : SevenPassImage.class.getDeclaredMethods()) {
            if (Modifier.isPrivate(method.getModifiers())) {
                hiddenNames.add(method.getName());
            } else {
                Checks.due(method.getName(), method.getModifiers(), Modifier.PUBLIC);
                open.add(method.getReturnType() + " " + method.getName() + "("
                    + Arrays.toString(method.getParameterTypes()).replaceAll("[\\[\\]]", "") + ")");
                openNames.add(method.getName());
            }
        }
        Checks.due("methods " + open, open.equals(new TreeSet<>(Arrays.asList(METHODS))), true);
        hiddenNames.retainAll(openNames);
        Checks.due("private ones with public names: " + hiddenNames, hiddenNames.size(), 0);
        Constructor<?>[] constructors = SevenPassImage.class.getDeclaredConstructors();
        Checks.due("constructors", constructors.length, 1);
        Checks.due("its arguments", constructors[0].getParameterCount(), 0);
        Checks.due("its modifiers", constructors[0].getModifiers(), Modifier.PUBLIC);
    }

    private static void nestedClasses() {
        for (Class<?> nested : SevenPassImage.class.getDeclaredClasses()) {
            int modifiers = nested.getModifiers();
            Checks.due(nested + " is static", Modifier.isStatic(modifiers), true);
            Checks.due(nested + " is hidden",
                Modifier.isPublic(modifiers) || Modifier.isProtected(modifiers), false);
        }
    }
}
