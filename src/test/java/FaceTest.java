import java.lang.reflect.Constructor;
import java.lang.reflect.Field;
import java.lang.reflect.Method;
import java.lang.reflect.Modifier;
import java.nio.charset.StandardCharsets;
import java.nio.file.Files;
import java.nio.file.Path;
import java.util.ArrayList;
import java.util.List;
import java.util.TreeSet;

/** The public face is the one that the document shows, with its exceptions, and nothing more. */
public final class FaceTest {

    public static void main(String[] args) throws Exception {
        Check check = new Check("FaceTest");
        TreeSet<String> told = faceOfDocument(Path.of(args[0]));
        TreeSet<String> made = faceOfClass();
        check.same("the document tells a constructor and 37 methods", 38, told.size());
        for (String line : told) {
            check.same("the class has: " + line, true, made.contains(line));
        }
        for (String line : made) {
            check.same("the document has: " + line, true, told.contains(line));
        }
        check.same("the class is final", true, Modifier.isFinal(WhalePolo.class.getModifiers()));
        for (Class<?> inside : WhalePolo.class.getDeclaredClasses()) {
            check.same(inside + " is static", true, Modifier.isStatic(inside.getModifiers()));
            check.same(inside + " is hidden", false, Modifier.isPublic(inside.getModifiers()));
            for (Field field : inside.getDeclaredFields()) {
                checkStatic(check, field);
            }
        }
        TreeSet<String> names = new TreeSet<>();
        for (Method method : WhalePolo.class.getDeclaredMethods()) {
            if (Modifier.isPublic(method.getModifiers())) {
                names.add(method.getName());
            }
        }
        for (Method method : WhalePolo.class.getDeclaredMethods()) {
            if (!Modifier.isPublic(method.getModifiers())) {
                check.same(method + " is private", true, Modifier.isPrivate(method.getModifiers()));
                check.same(method + " has a name of its own", false, names.contains(method.getName()));
            }
        }
        for (Field field : WhalePolo.class.getDeclaredFields()) {
            check.same(field + " is private", true, Modifier.isPrivate(field.getModifiers()));
            checkStatic(check, field);
        }
        check.end();
    }

    private static void checkStatic(Check check, Field field) {
        boolean isFree = Modifier.isStatic(field.getModifiers()) && !Modifier.isFinal(field.getModifiers());
        check.same(field + " is no static state", false, isFree);
    }

    private static TreeSet<String> faceOfDocument(Path document) throws Exception {
        TreeSet<String> lines = new TreeSet<>();
        boolean isFace = false;
        for (String line : Files.readAllLines(document, StandardCharsets.UTF_8)) {
            if (line.startsWith("public final class")) {
                isFace = true;
            } else if (line.startsWith("```")) {
                isFace = false;
            } else if (isFace && line.startsWith("    public ")) {
                lines.add(withoutNames(line.trim()));
            }
        }
        return lines;
    }

    /** Class files need not keep the names of parameters. */
    private static String withoutNames(String line) {
        int open = line.indexOf('(');
        int close = line.indexOf(')');
        List<String> types = new ArrayList<>();
        for (String parameter : line.substring(open + 1, close).split(",")) {
            if (!parameter.isBlank()) {
                types.add(parameter.trim().split(" ")[0]);
            }
        }
        String end = line.substring(close + 1, line.length() - 1).replace(" throws ", "");
        return line.substring(0, open) + types + " " + end;
    }

    private static TreeSet<String> faceOfClass() {
        TreeSet<String> lines = new TreeSet<>();
        for (Constructor<?> made : WhalePolo.class.getDeclaredConstructors()) {
            if (Modifier.isPublic(made.getModifiers())) {
                lines.add("public WhalePolo" + namesOf(made.getParameterTypes()) + " "
                        + joined(made.getExceptionTypes()));
            }
        }
        for (Method method : WhalePolo.class.getDeclaredMethods()) {
            if (Modifier.isPublic(method.getModifiers())) {
                lines.add("public " + method.getReturnType().getSimpleName() + " " + method.getName()
                        + namesOf(method.getParameterTypes()) + " " + joined(method.getExceptionTypes()));
            }
        }
        return lines;
    }

    private static List<String> namesOf(Class<?>[] types) {
        List<String> names = new ArrayList<>();
        for (Class<?> type : types) {
            names.add(type.getSimpleName());
        }
        return names;
    }

    private static String joined(Class<?>[] types) {
        return String.join(", ", namesOf(types));
    }
}
