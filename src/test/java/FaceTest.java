import java.io.IOException;
import java.lang.reflect.Constructor;
import java.lang.reflect.Field;
import java.lang.reflect.Method;
import java.lang.reflect.Modifier;
import java.nio.file.Files;
import java.nio.file.Path;
import java.util.Arrays;
import java.util.Set;
import java.util.TreeSet;
import java.util.regex.Matcher;
import java.util.regex.Pattern;

/** The public face of the document, and what can be seen from outside of the rules of LANGUAGE.md. */
public final class FaceTest extends Checks {
    private static final Set<String> FACE = Set.of(
        "rule(int, int)", "drop(int)", "clear()", "rules()", "push(int)", "pop()", "write(int, int)", "length()",
        "accepts()", "fits(int, int, int)", "ends(int, int)", "ruleFits(int, int, int)", "stretches(int)",
        "longest(int)", "empty(int)", "ways(int, int, int)", "nextLetter()");
    private static final Set<Class<?>> NUMBERS = Set.of(int.class, long.class, short.class, byte.class, char.class, boolean.class);
    private static final Path SOURCE = Path.of("src/main/java/GllRecogniser.java");
    private static final String FORBIDDEN =
        "package|import|float|double|String|Math|Integer|System|Arrays|Object|null|throw|throws|try|catch|finally"
        + "|synchronized|assert|instanceof|enum|interface|record|protected|var|super";

    public static void main(String[] args) throws IOException {
        classItself();
        constructors();
        methods();
        fields();
        source();
        finish();
    }

    private static void classItself() {
        int modifiers = GllRecogniser.class.getModifiers();
        check(Modifier.isPublic(modifiers) && Modifier.isFinal(modifiers), "the class is not public and final");
        check(GllRecogniser.class.getSuperclass() == Object.class, "the class extends another");
        check(GllRecogniser.class.getInterfaces().length == 0, "the class implements an interface");
        check(GllRecogniser.class.getDeclaredClasses().length == 0, "the class has a nested class");
    }

    private static void constructors() {
        Constructor<?>[] all = GllRecogniser.class.getDeclaredConstructors();
        check(all.length == 1, "there is not just one constructor");
        check(all[0].getParameterCount() == 0 && Modifier.isPublic(all[0].getModifiers()), "no public GllRecogniser()");
    }

    private static void methods() {
        Set<String> open = new TreeSet<>();
        Set<String> openNames = new TreeSet<>();
        for (Method method : GllRecogniser.class.getDeclaredMethods()) {
            if (!Modifier.isPrivate(method.getModifiers())) {
                String parameters = Arrays.toString(method.getParameterTypes());
                open.add(method.getName() + "(" + parameters.substring(1, parameters.length() - 1) + ")");
                openNames.add(method.getName());
                check(Modifier.isPublic(method.getModifiers()), "not public, not private: " + method);
                check(method.getReturnType() == int.class, "does not answer an int: " + method);
                check(!Modifier.isStatic(method.getModifiers()), "is static: " + method);
            }
        }
        check(open.equals(FACE), "the public methods are " + open);
        for (Method method : GllRecogniser.class.getDeclaredMethods()) {
            boolean hidden = Modifier.isPrivate(method.getModifiers());
            check(!hidden || !openNames.contains(method.getName()), "bears the name of a public one: " + method);
            check(method.getParameterCount() <= 7, "has more than seven parameters: " + method);
            check(!method.getReturnType().isArray(), "answers an array: " + method);
        }
    }

    private static void fields() {
        for (Field field : GllRecogniser.class.getDeclaredFields()) {
            Class<?> type = field.getType();
            int modifiers = field.getModifiers();
            check(Modifier.isPrivate(modifiers), "is not private: " + field);
            check(NUMBERS.contains(type) || type.isArray() && NUMBERS.contains(type.getComponentType()), "has a wrong type: " + field);
            if (Modifier.isStatic(modifiers)) {
                check(Modifier.isFinal(modifiers) && (type == int.class || type == long.class), "is not a constant: " + field);
            }
        }
    }

    /** Words that the rules leave no room for; comments are not looked at. */
    private static void source() throws IOException {
        String code = Files.readString(SOURCE).replaceAll("(?s)/\\*.*?\\*/", "").replaceAll("//.*", "");
        Matcher words = Pattern.compile("(?<!\\w)(" + FORBIDDEN + ")(?!\\w)|->|::").matcher(code);
        while (words.find()) {
            check(false, "the source has the word " + words.group());
        }
        Matcher made = Pattern.compile("(?m)^.*\\bnew\\b.*$").matcher(code);
        while (made.find()) {
            String line = made.group();
            check(line.matches("    private final \\w+\\[\\] \\w+ = new \\w+\\[[A-Z_0-9]+\\];"), "made outside a field: " + line);
        }
    }
}
