import java.lang.reflect.Constructor;
import java.lang.reflect.Field;
import java.lang.reflect.Method;
import java.lang.reflect.Modifier;
import java.util.Arrays;
import java.util.Set;
import java.util.TreeSet;

/** The public face of the document: the class, its constructor and its methods, and no other member to be seen. */
public final class FaceTest extends Checks {
    private static final Set<String> FACE = Set.of(
        "rule(int, int)", "drop(int)", "clear()", "rules()", "push(int)", "pop()", "write(int, int)", "length()",
        "accepts()", "fits(int, int, int)", "ends(int, int)", "ruleFits(int, int, int)", "stretches(int)",
        "longest(int)", "empty(int)", "ways(int, int, int)", "nextLetter()");

    public static void main(String[] args) {
        classItself();
        constructors();
        methods();
        fields();
        finish();
    }

    private static void classItself() {
        int modifiers = GllRecogniser.class.getModifiers();
        check(Modifier.isPublic(modifiers) && Modifier.isFinal(modifiers), "the class is not public and final");
        check(GllRecogniser.class.getSuperclass() == Object.class, "the class extends another");
        check(GllRecogniser.class.getInterfaces().length == 0, "the class implements an interface");
        check(GllRecogniser.class.getDeclaredClasses().length == 0, "the class has a nested class");
    }

    private static void constructors() {
        Constructor<?>[] all = GllRecogniser.class.getDeclaredConstructors();
        check(all.length == 1, "there is not just one constructor");
        check(all[0].getParameterCount() == 0 && Modifier.isPublic(all[0].getModifiers()), "no public GllRecogniser()");
    }

    private static void methods() {
        Set<String> open = new TreeSet<>();
        for (Method method : GllRecogniser.class.getDeclaredMethods()) {
            if (!Modifier.isPrivate(method.getModifiers())) {
                String parameters = Arrays.toString(method.getParameterTypes());
                open.add(method.getName() + "(" + parameters.substring(1, parameters.length() - 1) + ")");
                check(Modifier.isPublic(method.getModifiers()), "not public, not private: " + method);
                check(method.getReturnType() == int.class, "does not answer an int: " + method);
                check(!Modifier.isStatic(method.getModifiers()), "is static: " + method);
            }
        }
        check(open.equals(FACE), "the public methods are " + open);
    }

    private static void fields() {
        for (Field field : GllRecogniser.class.getDeclaredFields()) {
            check(Modifier.isPrivate(field.getModifiers()), "is not private: " + field);
        }
    }
}
