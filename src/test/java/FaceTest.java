import java.lang.reflect.Constructor;
import java.lang.reflect.Field;
import java.lang.reflect.Method;
import java.lang.reflect.Modifier;
import java.util.ArrayList;
import java.util.List;
import java.util.Set;
import java.util.TreeSet;

/** The public face is the one that the document writes out, no less and no more. */
final class FaceTest {
    public static void main(String[] args) throws IllegalAccessException {
        Due due = new Due("face");
        Set<String> written = new TreeSet<>(new Doc().face());
        Set<String> open = new TreeSet<>();
        open.add(heading());
        constants(open);
        constructors(open);
        methods(open);
        due.is("lines of the face in the document", written.size(), 13);
        for (String line : written) {
            due.is("the class has: " + line, open.contains(line) ? 1 : 0, 1);
        }
        for (String line : open) {
            due.is("the document has: " + line, written.contains(line) ? 1 : 0, 1);
        }
        due.end();
    }

    private static String heading() {
        return Modifier.toString(JoinBench.class.getModifiers()) + " class " + JoinBench.class.getName() + " {";
    }

    private static void constants(Set<String> open) throws IllegalAccessException {
        for (Field field : JoinBench.class.getDeclaredFields()) {
            if (!Modifier.isPrivate(field.getModifiers())) {
                String text = Modifier.toString(field.getModifiers()) + " " + field.getType() + " " + field.getName();
                open.add(Modifier.isStatic(field.getModifiers()) ? text + " = " + field.get(null) + ";" : text);
            }
        }
    }

    private static void constructors(Set<String> open) {
        for (Constructor<?> made : JoinBench.class.getDeclaredConstructors()) {
            if (!Modifier.isPrivate(made.getModifiers())) {
                open.add(made.toGenericString() + ";");
            }
        }
    }

    private static void methods(Set<String> open) {
        for (Method method : JoinBench.class.getDeclaredMethods()) {
            if (!Modifier.isPrivate(method.getModifiers())) {
                String kind = Modifier.toString(method.getModifiers()) + " " + method.getReturnType();
                open.add(kind + " " + method.getName() + "(" + types(method) + ");");
            }
        }
    }

    private static String types(Method method) {
        List<String> types = new ArrayList<>();
        for (Class<?> type : method.getParameterTypes()) {
            types.add(type.getName());
        }
        return String.join(", ", types);
    }
}
