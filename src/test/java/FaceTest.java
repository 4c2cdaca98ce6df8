import java.lang.reflect.Constructor;
import java.lang.reflect.Field;
import java.lang.reflect.Method;
import java.lang.reflect.Modifier;
import java.util.Arrays;
import java.util.Set;
import java.util.TreeSet;

/** The public face of the document, and nothing beside it that is not private. */
final class FaceTest {
    private static final Set<String> FACE = new TreeSet<>(Arrays.asList("int addJob(int, int, int)",
        "int setTime(int, int, int)", "int removeLast()", "int jobs()", "int time(int, int)", "int shortest()",
        "int shortestByTrying()", "int shortestMachine(int)", "int bound()", "int numerator(int, int)",
        "int denominator(int, int)", "boolean isDivided(int)", "int leastNumerator()", "int leastDenominator()",
        "int roundedMachine(int)", "int roundedLength()", "float excess()", "int assign(int, int)",
        "int machine(int)", "int load(int)", "int length()", "int improve()", "int takeRounded()"));

    public static void main(String[] args) {
        Due due = new Due("FaceTest");
        Class<?> face = UnlikeUnion.class;
        due.same("the class", Modifier.toString(face.getModifiers()), "public final");
        Set<String> open = new TreeSet<>();
        Set<String> names = new TreeSet<>();
        for (Method method : face.getDeclaredMethods()) {
            if (!method.isSynthetic() && !Modifier.isPrivate(method.getModifiers())) {
                due.same(method.getName(), Modifier.toString(method.getModifiers()), "public");
                open.add(written(method));
                names.add(method.getName());
            }
        }
        due.same("the methods", open, FACE);
        for (Constructor<?> made : face.getDeclaredConstructors()) {
            due.same("the constructor", Modifier.toString(made.getModifiers()) + made.getParameterCount(), "public0");
        }
        for (Field field : face.getDeclaredFields()) {
            boolean constant = field.getName().equals("NONE");
            due.same(field.getName(), Modifier.isPrivate(field.getModifiers()), !constant);
            due.same(field.getName() + " in all", Modifier.isPublic(field.getModifiers()), constant);
        }
        lookAtHidden(due, face, names);
        for (Class<?> inside : face.getDeclaredClasses()) {
            int kind = inside.getModifiers();
            due.same(inside.getName(), Modifier.isStatic(kind) && !Modifier.isPublic(kind) && !Modifier.isProtected(kind), true);
            lookAtHidden(due, inside, names);
        }
        due.close();
    }

    private static String written(Method method) {
        String parameters = Arrays.toString(method.getParameterTypes());
        return method.getReturnType() + " " + method.getName() + "(" + parameters.substring(1, parameters.length() - 1) + ")";
    }

    private static void lookAtHidden(Due due, Class<?> where, Set<String> names) {
        for (Method method : where.getDeclaredMethods()) {
            if (Modifier.isPrivate(method.getModifiers())) {
                due.same(where.getName() + "." + method.getName() + " bears a public name", names.contains(method.getName()), false);
            }
        }
        for (Field field : where.getDeclaredFields()) {
            if (Modifier.isStatic(field.getModifiers())) {
                due.same(where.getName() + "." + field.getName() + " is final", Modifier.isFinal(field.getModifiers()), true);
            }
        }
    }
}
