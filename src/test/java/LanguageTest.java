import java.io.IOException;
import java.lang.reflect.Constructor;
import java.lang.reflect.Field;
import java.lang.reflect.Method;
import java.lang.reflect.Modifier;
import java.nio.file.Files;
import java.nio.file.Path;
import java.util.List;
import java.util.Set;
import java.util.TreeSet;
import java.util.regex.Matcher;
import java.util.regex.Pattern;

/** The public face, and those rules of LANGUAGE.md that can be seen from the text or by reflection. */
final class LanguageTest {
    private static final Set<String> FACE = Set.of(
        "row(int, int, int)", "cut(int, int)", "size(int, int)", "pages(int)", "part(int, int)",
        "join()", "pair(int, int)", "told(int)", "event(int, int)");
    private static final List<String> BANNED = List.of(
        "throw", "throws", "try", "catch", "finally", "synchronized", "assert", "volatile",
        "protected", "hashCode", "toString", "Random", "System\\.(?!arraycopy)", "Thread", "var",
        "\\w+Exact", "->", "::");

    public static void main(String[] args) throws IOException {
        Due due = new Due("language");
        face(due);
        for (Class<?> inside : JoinBench.class.getDeclaredClasses()) {
            due.is(inside.getName() + " is static", Modifier.isStatic(inside.getModifiers()) ? 1 : 0, 1);
            due.is(inside.getName() + " is not public", Modifier.isPublic(inside.getModifiers()) ? 1 : 0, 0);
            members(due, inside);
        }
        due.is("classes", JoinBench.class.getDeclaredClasses().length < 12 ? 1 : 0, 1);
        members(due, JoinBench.class);
        text(due);
        due.end();
    }

    private static void face(Due due) {
        int kind = JoinBench.class.getModifiers();
        due.is("public and final", Modifier.isPublic(kind) && Modifier.isFinal(kind) ? 1 : 0, 1);
        Set<String> open = new TreeSet<>();
        for (Method method : JoinBench.class.getDeclaredMethods()) {
            if (!Modifier.isPrivate(method.getModifiers())) {
                String text = method.toGenericString();
                open.add(method.getName() + text.substring(text.indexOf('(')).replace(",", ", "));
                due.is(text + " is public int", text.startsWith("public int ") ? 1 : 0, 1);
            }
        }
        due.is("open methods " + open, open.equals(FACE) ? 1 : 0, 1);
        Set<String> fields = new TreeSet<>();
        for (Field field : JoinBench.class.getDeclaredFields()) {
            if (!Modifier.isPrivate(field.getModifiers())) {
                fields.add(field.toGenericString());
            }
        }
        due.is("open fields " + fields, fields.equals(Set.of(
            "public static final int JoinBench.BAD", "public static final int JoinBench.FULL")) ? 1 : 0, 1);
        Constructor<?>[] made = JoinBench.class.getDeclaredConstructors();
        due.is("constructors", made.length, 1);
        due.is("its parameters", made[0].getParameterCount(), 0);
        due.is("it is public", Modifier.isPublic(made[0].getModifiers()) ? 1 : 0, 1);
    }

    private static void members(Due due, Class<?> type) {
        int fields = 0;
        for (Field field : type.getDeclaredFields()) {
            int kind = field.getModifiers();
            fields += Modifier.isStatic(kind) ? 0 : 1;
            due.is(field + " is final if static", Modifier.isStatic(kind) && !Modifier.isFinal(kind) ? 1 : 0, 0);
        }
        due.is(type + " has few fields", fields <= 20 ? 1 : 0, 1);
        for (Method method : type.getDeclaredMethods()) {
            due.is(method + " has few parameters", method.getParameterCount() <= 7 ? 1 : 0, 1);
            boolean namedAsTheFace = FACE.stream().anyMatch(f -> f.startsWith(method.getName() + "("));
            due.is(method + " has a name of its own", namedAsTheFace && type != JoinBench.class ? 1 : 0, 0);
        }
    }

    private static void text(Due due) throws IOException {
        String source = Files.readString(Path.of("src/main/java/JoinBench.java"));
        String code = source.replaceAll("(?s)/\\*.*?\\*/", "").replaceAll("//[^\n]*", "");
        for (String word : BANNED) {
            Matcher found = Pattern.compile(word.matches("\\W+") ? word : "\\b" + word).matcher(code);
            while (found.find()) {
                boolean whole = found.end() == code.length() || !Character.isLetter(code.charAt(found.end()));
                due.is("the word " + found.group(), whole ? 1 : 0, 0);
            }
        }
        Matcher imports = Pattern.compile("(?m)^import (.*);").matcher(code);
        while (imports.find()) {
            boolean listed = imports.group(1).matches("java\\.util\\.(Arrays|ArrayList|List|Iterator)");
            due.is("import " + imports.group(1), listed ? 1 : 0, 1);
        }
        due.is("a package line", code.contains("package ") ? 1 : 0, 0);
        due.is("characters over 255", source.chars().anyMatch(c -> c > 255) ? 1 : 0, 0);
    }
}
