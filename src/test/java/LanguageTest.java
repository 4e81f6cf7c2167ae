import java.io.IOException;
import java.lang.reflect.Field;
import java.lang.reflect.Method;
import java.lang.reflect.Modifier;
import java.nio.file.Files;
import java.nio.file.Path;
import java.util.List;
import java.util.Set;
import java.util.TreeSet;
import java.util.regex.Matcher;
import java.util.regex.Pattern;

/** Those rules of LANGUAGE.md that can be seen from the text or by reflection. */
final class LanguageTest {
    private static final List<String> BANNED = List.of(
        "throw", "throws", "try", "catch", "finally", "synchronized", "assert", "volatile",
        "protected", "hashCode", "toString", "Random", "System\\.(?!arraycopy)", "Thread", "var",
        "\\w+Exact", "->", "::");

    public static void main(String[] args) throws IOException {
        Due due = new Due("language");
        for (Class<?> inside : JoinBench.class.getDeclaredClasses()) {
            due.is(inside.getName() + " is static", Modifier.isStatic(inside.getModifiers()) ? 1 : 0, 1);
            due.is(inside.getName() + " is not public", Modifier.isPublic(inside.getModifiers()) ? 1 : 0, 0);
            members(due, inside);
        }
        due.is("classes", JoinBench.class.getDeclaredClasses().length < 12 ? 1 : 0, 1);
        members(due, JoinBench.class);
        text(due);
        due.end();
    }

    /** The public methods' names, which no other method may bear. */
    private static Set<String> faceNames() {
        Set<String> names = new TreeSet<>();
        for (Method method : JoinBench.class.getDeclaredMethods()) {
            if (Modifier.isPublic(method.getModifiers())) {
                names.add(method.getName());
            }
        }
        return names;
    }

    private static void members(Due due, Class<?> type) {
        int fields = 0;
        for (Field field : type.getDeclaredFields()) {
            int kind = field.getModifiers();
            fields += Modifier.isStatic(kind) ? 0 : 1;
            due.is(field + " is final if static", Modifier.isStatic(kind) && !Modifier.isFinal(kind) ? 1 : 0, 0);
        }
        due.is(type + " has few fields", fields <= 20 ? 1 : 0, 1);
        for (Method method : type.getDeclaredMethods()) {
            due.is(method + " has few parameters", method.getParameterCount() <= 7 ? 1 : 0, 1);
            boolean isOfTheFace = type == JoinBench.class && Modifier.isPublic(method.getModifiers());
            boolean namedAsTheFace = faceNames().contains(method.getName());
            due.is(method + " has a name of its own", namedAsTheFace && !isOfTheFace ? 1 : 0, 0);
        }
    }

    private static void text(Due due) throws IOException {
        String source = Files.readString(Path.of("src/main/java/JoinBench.java"));
        String code = source.replaceAll("(?s)/\\*.*?\\*/", "").replaceAll("//[^\n]*", "");
        for (String word : BANNED) {
            Matcher found = Pattern.compile(word.matches("\\W+") ? word : "\\b" + word).matcher(code);
            while (found.find()) {
                boolean whole = found.end() == code.length() || !Character.isLetter(code.charAt(found.end()));
                due.is("the word " + found.group(), whole ? 1 : 0, 0);
            }
        }
        Matcher imports = Pattern.compile("(?m)^import (.*);").matcher(code);
        while (imports.find()) {
            boolean listed = imports.group(1).matches("java\\.util\\.(Arrays|ArrayList|List|Iterator)");
            due.is("import " + imports.group(1), listed ? 1 : 0, 1);
        }
        due.is("a package line", code.contains("package ") ? 1 : 0, 0);
        due.is("characters over 255", source.chars().anyMatch(c -> c > 255) ? 1 : 0, 0);
    }
}
