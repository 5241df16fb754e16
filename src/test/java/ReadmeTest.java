import java.io.IOException;
import java.lang.reflect.Method;
import java.lang.reflect.Modifier;
import java.nio.file.Files;
import java.nio.file.Path;
import java.util.Set;
import java.util.TreeSet;
import java.util.regex.Matcher;
import java.util.regex.Pattern;

/** Runs the examples of README.md, so that what it tells a user stays true. */
public final class ReadmeTest {
    private static final String MAKING = "CoverKernel x = new CoverKernel();";
    private static final Pattern CALL =
            Pattern.compile("x\\.(\\w+)\\((.*)\\);\\s*// (true|false|NONE|-?\\d+)(:.*)?");

    private static int wrong = 0;

    public static void main(String[] args) throws IOException, ReflectiveOperationException {
        Set<String> unused = publicMethods();
        CoverKernel x = new CoverKernel();
        boolean inExample = false;
        for (String line : Files.readAllLines(Path.of("README.md"))) {
            if (line.startsWith("```")) {
                inExample = line.equals("```java");
            } else if (line.equals(MAKING)) {
                x = new CoverKernel();
            } else if (inExample) {
                unused.remove(run(x, line));
            }
        }
        if (!unused.isEmpty()) {
            complain("no example uses " + unused);
        }
        System.out.println(wrong == 0 ? "the examples are as due" : "the examples are not as due");
        if (wrong != 0) {
            System.exit(1);
        }
    }

    private static Set<String> publicMethods() {
        Set<String> names = new TreeSet<>();
        for (Method method : CoverKernel.class.getDeclaredMethods()) {
            if (Modifier.isPublic(method.getModifiers())) {
                names.add(method.getName());
            }
        }
        return names;
    }

    /** Makes the call of this line, and answers the name of its method. */
    private static String run(CoverKernel x, String line) throws ReflectiveOperationException {
        Matcher call = CALL.matcher(line);
        if (!call.matches()) {
            complain("not a call with its answer: " + line);
            return "";
        }
        String[] words = call.group(2).isEmpty() ? new String[0] : call.group(2).split(", ");
        String want = call.group(3).equals("NONE") ? "-1" : call.group(3);
        Object got = method(call.group(1), words.length).invoke(x, values(words));
        if (!got.toString().equals(want)) {
            complain(line + " (answered " + got + ")");
        }
        return call.group(1);
    }

    private static Method method(String name, int parameters) throws NoSuchMethodException {
        for (Method method : CoverKernel.class.getMethods()) {
            if (method.getName().equals(name) && method.getParameterCount() == parameters) {
                return method;
            }
        }
        throw new NoSuchMethodException(name);
    }

    private static Object[] values(String[] words) {
        Object[] values = new Object[words.length];
        for (int i = 0; i < words.length; i++) {
            boolean truth = words[i].equals("true") || words[i].equals("false");
            values[i] = truth ? (Object) Boolean.valueOf(words[i]) : (Object) Integer.valueOf(words[i]);
        }
        return values;
    }

    private static void complain(String text) {
        wrong++;
        System.out.println("README.md: " + text);
    }
}
