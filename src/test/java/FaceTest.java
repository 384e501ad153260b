import java.lang.reflect.Field;
import java.lang.reflect.Method;
import java.lang.reflect.Modifier;
import java.util.Arrays;
import java.util.TreeSet;

/** The public face of the document, and those rules of the language that a running program can see. */
public final class FaceTest {
    private static final Checks checks = new Checks();

    private static final String[] FACE = {
        "int hold(int, int, int)", "int told(int, int)", "int reckon(int, int, int, int)", "int against(int, int)",
        "int road(int, int)", "long share(int, int, int)", "int sums(int, int, int)", "int sum(int, int)", "int wish(int, long)",
        "int fault()", "int best()", "int cuts(int, int)", "int beside(int)", "int multiple(int)", "int divisor(int, int)",
        "int handy(int)", "int pairs(int)", "long pair(int, int, int)", "int threes(int)", "int table(int, int, int, int)",
        "long rising(int, int)", "int firstAbove(int)", "long loaves(int, int, int, int)", "int count(int)"};

    public static void main(String[] args) {
        constants();
        Class<?> type = SingleShares.class;
        checks.holds("public and final", Modifier.isPublic(type.getModifiers()) && Modifier.isFinal(type.getModifiers()));
        checks.holds("one public constructor", type.getDeclaredConstructors().length == 1 && type.getConstructors().length == 1);
        TreeSet<String> names = methods(type);
        checks.due("classes", Math.max(12, type.getDeclaredClasses().length), 12);
        for (Class<?> inside : type.getDeclaredClasses()) {
            inside(inside, names);
        }
        fields(type);
        checks.end();
    }

    private static void constants() {
        checks.due("BAD", SingleShares.BAD, -1);
        checks.due("NO", SingleShares.NO, -2);
        checks.due("FULL", SingleShares.FULL, -3);
        checks.due("NONE", SingleShares.NONE, -4);
        checks.due("SPENT", SingleShares.SPENT, -5);
    }

    private static TreeSet<String> methods(Class<?> type) {
        TreeSet<String> face = new TreeSet<>();
        TreeSet<String> names = new TreeSet<>();
        for (Method method : type.getDeclaredMethods()) {
            String parameters = Arrays.toString(method.getParameterTypes());
            if (Modifier.isPublic(method.getModifiers())) {
                face.add(method.getReturnType() + " " + method.getName() + "(" + parameters.substring(1, parameters.length() - 1) + ")");
                names.add(method.getName());
                checks.holds(method + " is no static one", !Modifier.isStatic(method.getModifiers()));
            } else {
                checks.holds(method + " is private", Modifier.isPrivate(method.getModifiers()));
            }
        }
        checks.holds("the face: " + face, face.equals(new TreeSet<>(Arrays.asList(FACE))));
        for (Method method : type.getDeclaredMethods()) {
            checks.holds(method + " has a name of its own", Modifier.isPublic(method.getModifiers()) || !names.contains(method.getName()));
        }
        return names;
    }

    private static void inside(Class<?> inside, TreeSet<String> names) {
        int modifiers = inside.getModifiers();
        checks.holds(inside + " is static", Modifier.isStatic(modifiers));
        checks.holds(inside + " is hidden", !Modifier.isPublic(modifiers) && !Modifier.isProtected(modifiers));
        for (Method method : inside.getDeclaredMethods()) {
            checks.holds(method + " has a name of its own", !names.contains(method.getName()));
            checks.holds(method + " has seven parameters at most", method.getParameterCount() <= 7);
        }
        fields(inside);
    }

    private static void fields(Class<?> type) {
        int own = 0;
        for (Field field : type.getDeclaredFields()) {
            int modifiers = field.getModifiers();
            if (Modifier.isStatic(modifiers)) {
                checks.holds(field + " is final", Modifier.isFinal(modifiers));
            } else {
                own++;
            }
            checks.holds(field + " is a constant of the face or hidden", Modifier.isPrivate(modifiers)
                || type == SingleShares.class && Arrays.asList("BAD", "NO", "FULL", "NONE", "SPENT").contains(field.getName()));
        }
        checks.holds(type + " has twenty fields at most", own <= 20);
    }
}
