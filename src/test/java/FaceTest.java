import java.lang.reflect.Constructor;
import java.lang.reflect.Field;
import java.lang.reflect.Method;
import java.lang.reflect.Modifier;
import java.util.Arrays;
import java.util.TreeSet;

/** The class has the document's public face and no other member that can be seen from outside. */
public final class FaceTest {
    private static final String INDEX = "ArrayIndexOutOfBoundsException";
    private static final String BOTH = INDEX + " IllegalArgumentException";

    private FaceTest() {
    }

    public static void main(String[] args) {
        Check check = new Check("FaceTest");
        check.due("public final class", HumanSteps.class.getModifiers(), Modifier.PUBLIC | Modifier.FINAL);
        TreeSet<String> want = new TreeSet<>(Arrays.asList(
            "boolean set(int int) " + BOTH,
            "boolean take(int int) " + BOTH,
            "boolean enable(int boolean) " + INDEX,
            "int find() ",
            "int found(int) ",
            "int reason(int) ",
            "int goes(int) ",
            "boolean apply() ",
            "int solve(int) ",
            "int undo() ",
            "int done(int) " + INDEX,
            "int candidates(int) " + INDEX,
            "int value(int) " + INDEX,
            "int state(int) ",
            "int words(int int) "));
        TreeSet<String> names = new TreeSet<>();
        for (String face : want) {
            names.add(face.substring(face.indexOf(' ') + 1, face.indexOf('(')));
        }
        TreeSet<String> got = new TreeSet<>();
        for (Method method : HumanSteps.class.getDeclaredMethods()) {
            if (!Modifier.isPrivate(method.getModifiers())) {
                got.add(told(method));
                check.due(method + " is public and no more", method.getModifiers(), Modifier.PUBLIC);
            } else {
                check.due(method + " bears a public name", names.contains(method.getName()), false);
            }
        }
        check.due("methods", got.toString(), want.toString());
        Constructor<?>[] constructors = HumanSteps.class.getDeclaredConstructors();
        check.due("constructors", Arrays.toString(constructors), "[public HumanSteps(int)]");
        for (Field field : HumanSteps.class.getDeclaredFields()) {
            check.due(field + " is private", Modifier.isPrivate(field.getModifiers()), true);
        }
        for (Class<?> inside : HumanSteps.class.getDeclaredClasses()) {
            check.due(inside + " is static", Modifier.isStatic(inside.getModifiers()), true);
            check.due(inside + " is public", Modifier.isPublic(inside.getModifiers()), false);
            check.due(inside + " is protected", Modifier.isProtected(inside.getModifiers()), false);
        }
        check.end();
    }

    private static String told(Method method) {
        return method.getReturnType() + " " + method.getName() + "(" + simpleNames(method.getParameterTypes())
            + ") " + simpleNames(method.getExceptionTypes());
    }

    private static String simpleNames(Class<?>[] types) {
        StringBuilder text = new StringBuilder();
        for (Class<?> type : types) {
            text.append(text.length() == 0 ? "" : " ").append(type.getSimpleName());
        }
        return text.toString();
    }
}
