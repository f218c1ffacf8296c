import java.lang.reflect.Constructor;
import java.lang.reflect.Field;
import java.lang.reflect.Method;
import java.lang.reflect.Modifier;
import java.util.Arrays;
import java.util.Set;
import java.util.TreeSet;

/** The public face: what the document lists, and no other member that is not private. */
public final class FaceTest {
    private static final Check check = new Check("FaceTest");
    private static final String[] FACE = {
        "int feed(int, int, int, int, int)", "int text(int)", "int algebra(int, int) throws", "int local(int, int)", "int place(int, int)",
        "int index(int)", "int alike(int, int)", "int classes()", "boolean tell(int, int, int, int, int, int)", "int over(int, int)",
        "int element(int, int) throws", "int times(int, int, int)", "int plus(int, int, int, int)", "int mirror(int, int)",
        "int inverse(int, int)", "long norm(int, int) throws", "long trace(int, int) throws", "int solution(int, int)",
        "long matrix(int, int, int, int) throws", "int disc(int)", "int due(int)", "int row(int, int, int) throws",
        "int enlarge(int, int)", "int greatest(int)", "boolean plain(int)", "int table(int, int, int, int) throws", "int isIn(int)",
        "long ideal(int, int)", "int isInIdeal(int, int, int)", "int isTwoSided(int, int)", "int many(int, int)", "int count(int)"};

    public static void main(String[] args) {
        Class<?> face = MiddleAlgebras.class;
        check.due("public final", face.getModifiers(), Modifier.PUBLIC | Modifier.FINAL);
        check.due("one constructor", face.getDeclaredConstructors().length, 1);
        for (Constructor<?> one : face.getDeclaredConstructors()) {
            check.due("constructor", one.getModifiers() == Modifier.PUBLIC && one.getParameterCount() == 0, true);
        }
        methods(face);
        fields(face);
        for (Class<?> inside : face.getDeclaredClasses()) {
            check.due(inside.getName() + " is static", Modifier.isStatic(inside.getModifiers()), true);
            check.due(inside.getName() + " is not public", Modifier.isPublic(inside.getModifiers()), false);
            check.due(inside.getName() + " has few fields", inside.getDeclaredFields().length <= 20, true);
        }
        check.due("few classes", face.getDeclaredClasses().length <= 11, true);
        check.end();
    }

    private static void methods(Class<?> face) {
        Set<String> due = new TreeSet<>(Arrays.asList(FACE));
        Set<String> names = new TreeSet<>();
        for (String one : FACE) {
            names.add(one.substring(one.indexOf(' ') + 1, one.indexOf('(')));
        }
        for (Method one : face.getDeclaredMethods()) {
            if (one.isSynthetic()) {
                continue;
            }
            if (Modifier.isPrivate(one.getModifiers())) {
                check.due("private " + one.getName() + " bears a public name", names.contains(one.getName()), false);
                continue;
            }
            check.due("public " + one.getName(), one.getModifiers(), Modifier.PUBLIC);
            String told = told(one);
            check.due(told + " is of the face", due.remove(told), true);
        }
        check.due("missing: " + due, due.size(), 0);
    }

    private static String told(Method one) {
        StringBuilder made = new StringBuilder(one.getReturnType().getSimpleName()).append(' ').append(one.getName()).append('(');
        for (int at = 0; at < one.getParameterCount(); at++) {
            made.append(at == 0 ? "" : ", ").append(one.getParameterTypes()[at].getSimpleName());
        }
        made.append(')');
        for (Class<?> thrown : one.getExceptionTypes()) {
            made.append(thrown == java.util.NoSuchElementException.class ? " throws" : " throws another");
        }
        return made.toString();
    }

    private static void fields(Class<?> face) {
        for (Field one : face.getDeclaredFields()) {
            if (!Modifier.isPrivate(one.getModifiers()) && !one.isSynthetic()) {
                check.due("public " + one.getName(), one.getName().equals("NONE"), true);
                check.due("NONE is a constant", one.getModifiers(), Modifier.PUBLIC | Modifier.STATIC | Modifier.FINAL);
            }
        }
        check.due("NONE", MiddleAlgebras.NONE, -1);
    }
}
