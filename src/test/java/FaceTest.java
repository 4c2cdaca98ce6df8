import java.lang.reflect.Constructor;
import java.lang.reflect.Field;
import java.lang.reflect.Method;
import java.lang.reflect.Modifier;
import java.util.Arrays;
import java.util.Set;
import java.util.TreeSet;
import java.util.stream.Collectors;

/** The public face of the document, nothing beside it that is not private, and no class larger than the rules let it be. */
final class FaceTest {
    private static final Set<String> FACE = new TreeSet<>(Arrays.asList(
        "int addJob(int, int, int) throws IllegalArgumentException, IllegalStateException",
        "int setTime(int, int, int) throws IndexOutOfBoundsException, IllegalArgumentException, IllegalStateException",
        "int removeLast()",
        "int jobs()",
        "int time(int, int) throws IndexOutOfBoundsException",
        "int shortest()",
        "int shortestByTrying()",
        "int shortestMachine(int) throws IndexOutOfBoundsException",
        "int bound()",
        "int numerator(int, int) throws IndexOutOfBoundsException",
        "int denominator(int, int) throws IndexOutOfBoundsException",
        "boolean isDivided(int) throws IndexOutOfBoundsException",
        "int leastNumerator()",
        "int leastDenominator()",
        "int roundedMachine(int) throws IndexOutOfBoundsException",
        "int roundedLength()",
        "float excess()",
        "int assign(int, int) throws IndexOutOfBoundsException, IllegalStateException",
        "int machine(int) throws IndexOutOfBoundsException",
        "int load(int) throws IndexOutOfBoundsException",
        "int length()",
        "int improve()",
        "int takeRounded()"));

    public static void main(String[] args) {
        Due due = new Due("FaceTest");
        Class<?> face = UnlikeUnion.class;
        due.same("the class", Modifier.toString(face.getModifiers()), "public final");
        Set<String> open = new TreeSet<>();
        Set<String> names = new TreeSet<>();
        for (Method method : face.getDeclaredMethods()) {
            if (!method.isSynthetic() && !Modifier.isPrivate(method.getModifiers())) {
                due.same(method.getName(), Modifier.toString(method.getModifiers()), "public");
                open.add(written(method));
                names.add(method.getName());
            }
        }
        due.same("the methods", open, FACE);
        for (Constructor<?> made : face.getDeclaredConstructors()) {
            due.same("the constructor", Modifier.toString(made.getModifiers()) + made.getParameterCount(), "public0");
        }
        for (Field field : face.getDeclaredFields()) {
            boolean constant = field.getName().equals("NONE");
            due.same(field.getName(), Modifier.isPrivate(field.getModifiers()), !constant);
            due.same(field.getName() + " in all", Modifier.isPublic(field.getModifiers()), constant);
        }
        lookAtHidden(due, face, names);
        due.same("twelve classes at most", face.getDeclaredClasses().length < 12, true);
        for (Class<?> inside : face.getDeclaredClasses()) {
            int kind = inside.getModifiers();
            due.same(inside.getName(), Modifier.isStatic(kind) && !Modifier.isPublic(kind) && !Modifier.isProtected(kind), true);
            lookAtHidden(due, inside, names);
        }
        due.close();
    }

    private static String written(Method method) {
        String thrown = namesOf(method.getExceptionTypes());
        return method.getReturnType() + " " + method.getName() + "(" + namesOf(method.getParameterTypes()) + ")"
            + (thrown.isEmpty() ? "" : " throws " + thrown);
    }

    private static String namesOf(Class<?>[] types) {
        return Arrays.stream(types).map(Class::getSimpleName).collect(Collectors.joining(", "));
    }

    private static void lookAtHidden(Due due, Class<?> where, Set<String> names) {
        for (Method method : where.getDeclaredMethods()) {
            if (Modifier.isPrivate(method.getModifiers())) {
                due.same(where.getName() + "." + method.getName() + " bears a public name", names.contains(method.getName()), false);
            }
        }
        int fields = 0;
        for (Field field : where.getDeclaredFields()) {
            if (Modifier.isStatic(field.getModifiers())) {
                due.same(where.getName() + "." + field.getName() + " is final", Modifier.isFinal(field.getModifiers()), true);
                due.same(where.getName() + "." + field.getName() + " is an int", field.getType(), int.class);
            } else {
                fields++;
            }
        }
        due.same(where.getName() + " has twenty fields at most", fields <= 20, true);
        for (Method method : where.getDeclaredMethods()) {
            due.same(method + " has seven parameters at most", method.getParameterCount() <= 7, true);
        }
    }
}
