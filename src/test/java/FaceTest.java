import java.lang.reflect.Field;
import java.lang.reflect.Member;
import java.lang.reflect.Method;
import java.lang.reflect.Modifier;
import java.util.Arrays;
import java.util.Set;
import java.util.TreeSet;

/** The class shows the document's constants, constructor and methods, and nothing else. */
public final class FaceTest {
    private static final Set<String> METHODS = new TreeSet<>(Arrays.asList(
            "int transition[int, int, int]",
            "int exchange[int, int, int]",
            "boolean alike[int, int]",
            "int distance[int, int]",
            "int teller[int, int, int]",
            "int kind[int]",
            "int kinds[]",
            "int reachableKinds[int]",
            "int depth[]",
            "int run[int, int, int]"));
    private static final Set<String> CONSTANTS =
            new TreeSet<>(Arrays.asList("BAD_STATE", "BAD_INPUT", "BAD_OUTPUT", "NONE"));

    public static void main(String[] args) {
        Class<?> face = MachineTwins.class;
        Due.is("the class is public and final", face.getModifiers(), Modifier.PUBLIC | Modifier.FINAL);
        Due.is("nested classes", face.getDeclaredClasses().length, 0);
        Due.is("constructors", face.getDeclaredConstructors().length, 1);
        Due.is("the constructor's parameters", face.getConstructors()[0].getParameterCount(), 0);
        methods(face);
        constants(face);
        Due.end();
    }

    private static void methods(Class<?> face) {
        Set<String> shown = new TreeSet<>();
        for (Method method : face.getDeclaredMethods()) {
            if (isShown(method)) {
                Due.is(method.getName() + " modifiers", method.getModifiers(), Modifier.PUBLIC);
                shown.add(method.getReturnType() + " " + method.getName() + parameters(method));
            }
        }
        Due.is("the methods are those of the document: " + shown, shown.equals(METHODS), true);
    }

    private static void constants(Class<?> face) {
        Set<String> shown = new TreeSet<>();
        int wanted = Modifier.PUBLIC | Modifier.STATIC | Modifier.FINAL;
        for (Field field : face.getDeclaredFields()) {
            if (isShown(field)) {
                Due.is(field.getName() + " modifiers", field.getModifiers(), wanted);
                Due.is(field.getName() + " is an int", field.getType() == int.class, true);
                shown.add(field.getName());
            }
        }
        Due.is("the constants are those of the document: " + shown, shown.equals(CONSTANTS), true);
        Due.is("BAD_STATE", MachineTwins.BAD_STATE, -1);
        Due.is("BAD_INPUT", MachineTwins.BAD_INPUT, -2);
        Due.is("BAD_OUTPUT", MachineTwins.BAD_OUTPUT, -3);
        Due.is("NONE", MachineTwins.NONE, -4);
    }

    private static boolean isShown(Member member) {
        return !Modifier.isPrivate(member.getModifiers());
    }

    private static String parameters(Method method) {
        return Arrays.toString(method.getParameterTypes());
    }
}
