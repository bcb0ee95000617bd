import java.lang.reflect.Constructor;
import java.lang.reflect.Field;
import java.lang.reflect.Method;
import java.lang.reflect.Modifier;
import java.util.Arrays;
import java.util.TreeSet;

/** The document's face, all of it and nothing beside it (LANGUAGE.md, rules 1 and 5). */
public final class FaceTest {
    private static final String[] FACE = {
        "void size(int, int) throws NegativeArraySizeException, IllegalArgumentException",
        "boolean put(int, int, int, int) throws ArrayIndexOutOfBoundsException",
        "int entry(int, int, int) throws ArrayIndexOutOfBoundsException",
        "int make(int) throws IllegalArgumentException",
        "int degree(int, int, int) throws IllegalArgumentException, IllegalStateException, ArrayIndexOutOfBoundsException",
        "int at(int, int, int, int) throws IllegalArgumentException, IllegalStateException, ArrayIndexOutOfBoundsException",
        "int rank()",
        "int determinant(int) throws IllegalStateException",
        "int characteristic(int) throws IllegalStateException",
        "int minimal(int) throws IllegalStateException",
        "int root(int) throws IllegalStateException",
        "int blocks(int, int) throws IllegalStateException, IllegalArgumentException",
        "int count(int)",
    };
    private static final Check check = new Check();

    public static void main(String[] args) {
        Class<?> face = NormalForms.class;
        check.equal("public and final", face.getModifiers(), Modifier.PUBLIC | Modifier.FINAL);
        TreeSet<String> methods = new TreeSet<>();
        TreeSet<String> names = new TreeSet<>();
        for (Method method : face.getDeclaredMethods()) {
            if (Modifier.isPublic(method.getModifiers())) {
                methods.add(described(method));
                names.add(method.getName());
            }
        }
        check.equal("the public methods", methods, new TreeSet<>(Arrays.asList(FACE)));
        for (Constructor<?> constructor : face.getDeclaredConstructors()) {
            check.equal("constructor", constructor.toString(), "public NormalForms()");
        }
        noOtherIsSeen(face, names);
        for (Class<?> inside : face.getDeclaredClasses()) {
            check.equal(inside + " is static", Modifier.isStatic(inside.getModifiers()), true);
            check.equal(inside + " is not public", Modifier.isPublic(inside.getModifiers()), false);
            staticsAreFinal(inside);
            for (Method method : inside.getDeclaredMethods()) {
                check.equal(method + " bears a public one's name", names.contains(method.getName()), false);
            }
        }
        check.finish();
    }

    private static void noOtherIsSeen(Class<?> face, TreeSet<String> names) {
        for (Field field : face.getDeclaredFields()) {
            check.equal(field + " is private", Modifier.isPrivate(field.getModifiers()), true);
        }
        staticsAreFinal(face);
        for (Method method : face.getDeclaredMethods()) {
            if (!Modifier.isPublic(method.getModifiers())) {
                check.equal(method + " is private", Modifier.isPrivate(method.getModifiers()), true);
                check.equal(method + " bears a public one's name", names.contains(method.getName()), false);
            }
        }
    }

    private static void staticsAreFinal(Class<?> owner) {
        for (Field field : owner.getDeclaredFields()) {
            int modifiers = field.getModifiers();
            check.equal(field + " is no state", !Modifier.isStatic(modifiers) || Modifier.isFinal(modifiers), true);
        }
    }

    private static String described(Method method) {
        StringBuilder text = new StringBuilder(method.getReturnType().getSimpleName());
        text.append(' ').append(method.getName()).append('(').append(joined(method.getParameterTypes())).append(')');
        if (method.getExceptionTypes().length > 0) {
            text.append(" throws ").append(joined(method.getExceptionTypes()));
        }
        return text.toString();
    }

    private static String joined(Class<?>[] types) {
        String[] names = new String[types.length];
        for (int k = 0; k < types.length; k++) {
            names[k] = types[k].getSimpleName();
        }
        return String.join(", ", names);
    }
}
