import java.lang.reflect.InvocationTargetException;
import java.lang.reflect.Method;
import java.lang.reflect.Modifier;
import java.nio.file.Files;
import java.nio.file.Path;
import java.util.Set;
import java.util.TreeSet;
import java.util.regex.Matcher;
import java.util.regex.Pattern;

/** Makes the calls of README.md, and compares each answer with the one that stands behind the call there. */
final class ReadmeTest {
    private static final Due DUE = new Due("ReadmeTest");
    private static final String FIRST_LINE = "UnlikeUnion x = new UnlikeUnion();";
    private static final Pattern CALL = Pattern.compile("x\\.(\\w+)\\(([-\\d, ]*)\\);\\s+// (throws \\w+|true|false|-?[\\d.]*\\d).*");

    public static void main(String[] args) throws Exception {
        String[] lines = Files.readString(Path.of("README.md")).split("```java\n")[1].split("```")[0].split("\n");
        DUE.same("the first line", lines[0], FIRST_LINE);
        UnlikeUnion x = new UnlikeUnion();
        Set<String> called = new TreeSet<>();
        for (int line = 1; line < lines.length; line++) {
            if (!lines[line].isEmpty()) {
                Matcher call = CALL.matcher(lines[line]);
                DUE.same("is a call with its answer: " + lines[line], call.matches(), true);
                if (call.matches()) {
                    called.add(call.group(1));
                    DUE.same(lines[line], answer(x, call.group(1), call.group(2)), call.group(3));
                }
            }
        }
        Set<String> face = new TreeSet<>();
        for (Method method : UnlikeUnion.class.getDeclaredMethods()) {
            if (Modifier.isPublic(method.getModifiers())) {
                face.add(method.getName());
            }
        }
        DUE.same("the calls of the face", called, face);
        DUE.close();
    }

    private static String answer(UnlikeUnion x, String name, String written) throws IllegalAccessException {
        String[] numbers = written.isEmpty() ? new String[0] : written.split(", ");
        Object[] taken = new Object[numbers.length];
        for (int at = 0; at < numbers.length; at++) {
            taken[at] = Integer.valueOf(numbers[at]);
        }
        for (Method method : UnlikeUnion.class.getDeclaredMethods()) {
            if (method.getName().equals(name) && method.getParameterCount() == taken.length) {
                try {
                    return String.valueOf(method.invoke(x, taken));
                } catch (InvocationTargetException e) {
                    return "throws " + e.getCause().getClass().getSimpleName();
                }
            }
        }
        return "no such call";
    }
}
