import java.io.IOException;
import java.lang.reflect.InvocationTargetException;
import java.lang.reflect.Method;
import java.nio.file.Files;
import java.nio.file.Path;
import java.util.List;
import java.util.Set;
import java.util.TreeSet;
import java.util.regex.Matcher;
import java.util.regex.Pattern;

/** The example in README.md: each of its calls is made, and must answer what stands behind it. */
public final class ReadmeTest {
    private static final Pattern CALL = Pattern.compile("x\\.(\\w+)\\(([^)]*)\\); *// (.*)");
    private static final Pattern DUE = Pattern.compile("(-?\\d+|true|false|throws \\w+)(:.*)?");
    private static final Check check = new Check();

    public static void main(String[] args) throws IOException, IllegalAccessException {
        NormalForms x = new NormalForms();
        Set<String> shown = new TreeSet<>();
        for (String line : example(Files.readString(Path.of("README.md")).lines().toList())) {
            Matcher call = CALL.matcher(line);
            if (call.matches()) {
                shown.add(call.group(1));
                Matcher due = DUE.matcher(call.group(3));
                String got = outcome(x, call.group(1), call.group(2));
                check.equal("README.md, " + line, got, due.matches() ? due.group(1) : "null");
            } else {
                check.equal("README.md", line, "NormalForms x = new NormalForms();");
            }
        }
        check.equal("README.md shows every call", shown, face());
        check.finish();
    }

    private static List<String> example(List<String> lines) {
        int first = lines.indexOf("```java") + 1;
        List<String> behind = lines.subList(first, lines.size());
        return behind.subList(0, Math.max(0, behind.indexOf("```")));
    }

    private static Set<String> face() {
        Set<String> names = new TreeSet<>();
        for (Method method : NormalForms.class.getMethods()) {
            if (method.getDeclaringClass() == NormalForms.class) {
                names.add(method.getName());
            }
        }
        return names;
    }

    private static String outcome(NormalForms x, String name, String arguments) throws IllegalAccessException {
        for (Method method : NormalForms.class.getMethods()) {
            if (method.getName().equals(name)) {
                try {
                    return String.valueOf(method.invoke(x, numbers(arguments)));
                } catch (InvocationTargetException thrown) {
                    return "throws " + thrown.getCause().getClass().getSimpleName();
                }
            }
        }
        return "no such call";
    }

    private static Object[] numbers(String arguments) {
        if (arguments.isEmpty()) {
            return new Object[0];
        }
        String[] words = arguments.split(", ");
        Object[] numbers = new Object[words.length];
        for (int k = 0; k < words.length; k++) {
            numbers[k] = Integer.valueOf(words[k]);
        }
        return numbers;
    }
}
