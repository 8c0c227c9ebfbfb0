import java.lang.reflect.Constructor;
import java.lang.reflect.Field;
import java.lang.reflect.Method;
import java.lang.reflect.Modifier;
import java.nio.file.Files;
import java.nio.file.Path;
import java.util.Set;
import java.util.StringJoiner;
import java.util.TreeSet;
import java.util.regex.Matcher;
import java.util.regex.Pattern;

/** The public face, as it stands in the document and no other; and what of LANGUAGE.md can be seen. */
public final class FaceTest {
    private static final Check CHECK = new Check();

    private static final String METHODS = "[about(int) int, add(int, int, long, int) boolean, byteOf(int, int) int, "
        + "clear() void, column(int, int, int) boolean, end(int) boolean, feed(int, int, int, int, int) boolean, "
        + "length(int) int, level(int, int) int, most(boolean) int, output(int) int, read() int, turn() boolean, "
        + "value(int) long, write(int) int]";

    public static void main(String[] args) throws Exception {
        members();
        source();
        CHECK.finish();
    }

    private static void members() throws Exception {
        Class<?> face = PageForm.class;
        CHECK.due("the class", Modifier.toString(face.getModifiers()), "public final");
        Set<String> shown = new TreeSet<>();
        for (Method method : face.getDeclaredMethods()) {
            if (Modifier.isPrivate(method.getModifiers())) {
                notOfTheFace(method);
                continue;
            }
            CHECK.due(method.getName(), Modifier.toString(method.getModifiers()), "public");
            StringJoiner types = new StringJoiner(", ", "(", ")");
            for (Class<?> type : method.getParameterTypes()) {
                types.add(type.getName());
            }
            shown.add(method.getName() + types + " " + method.getReturnType());
        }
        CHECK.due("the methods", shown.toString(), METHODS);
        for (Field field : face.getDeclaredFields()) {
            boolean hidden = Modifier.isPrivate(field.getModifiers());
            CHECK.due("the field " + field.getName() + " is hidden", hidden, !field.getName().equals("NONE"));
            CHECK.due("the field " + field.getName() + " is fixed if static",
                Modifier.isStatic(field.getModifiers()) && !Modifier.isFinal(field.getModifiers()), false);
        }
        CHECK.due("NONE", Modifier.toString(face.getField("NONE").getModifiers()), "public static final");
        CHECK.due("NONE", PageForm.NONE, -1);
        for (Constructor<?> made : face.getDeclaredConstructors()) {
            CHECK.due("the constructor", made.toString(), "public PageForm()");
        }
        for (Class<?> inside : face.getDeclaredClasses()) {
            CHECK.due(inside.getName() + " is static", Modifier.isStatic(inside.getModifiers()), true);
            CHECK.due(inside.getName() + " is shown", Modifier.isPublic(inside.getModifiers()), false);
            for (Method method : inside.getDeclaredMethods()) {
                notOfTheFace(method);
            }
        }
    }

    private static void notOfTheFace(Method method) {
        boolean taken = METHODS.contains("[" + method.getName() + "(") || METHODS.contains(" " + method.getName() + "(");
        CHECK.due("a name of the face is used again: " + method.getName(), taken, false);
    }

    private static void source() throws Exception {
        String all = Files.readString(Path.of("src/main/java/PageForm.java"));
        String code = all.replaceAll("(?s)/\\*.*?\\*/", "").replaceAll("//[^\n]*", "");
        String[] without = {
            "->", "::", "\\btry\\b", "\\bcatch\\b", "\\bfinally\\b", "\\bsynchronized\\b", "\\bassert\\b",
            "Exact\\(", "\\bpackage\\b", "\\bSystem\\.(?!arraycopy)", "\\bprotected\\b", "\\bdouble\\b", "\\bfloat\\b",
        };
        for (String form : without) {
            CHECK.due("the program holds " + form, Pattern.compile(form).matcher(code).find(), false);
        }
        Matcher imports = Pattern.compile("import ([^;]*);").matcher(code);
        while (imports.find()) {
            CHECK.due("import", imports.group(1), "java.util.Arrays");
        }
        Matcher library = Pattern.compile("\\b(Arrays|Math|Long|Integer|System)\\.(\\w+)").matcher(code);
        Set<String> allowed = Set.of("Arrays.fill", "Math.min", "Long.compare", "Integer.compare", "System.arraycopy");
        while (library.find()) {
            CHECK.due("the library's " + library.group(), allowed.contains(library.group()), true);
        }
    }
}
