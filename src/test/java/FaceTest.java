import java.lang.reflect.Array;
import java.lang.reflect.Constructor;
import java.lang.reflect.Field;
import java.lang.reflect.Method;
import java.lang.reflect.Modifier;
import java.nio.file.Files;
import java.nio.file.Path;
import java.util.ArrayList;
import java.util.IdentityHashMap;
import java.util.List;
import java.util.Map;
import java.util.Set;
import java.util.StringJoiner;
import java.util.TreeSet;
import java.util.regex.Matcher;
import java.util.regex.Pattern;
import java.util.stream.Stream;

/** The public face, as it stands in the document and no other; and what of LANGUAGE.md can be seen. */
public final class FaceTest {
    private static final Check CHECK = new Check();

    private static final String METHODS = "[about(int) int, add(int, int, long, int) boolean, byteOf(int, int) int, "
        + "clear() void, column(int, int, int) boolean, end(int) boolean, feed(int, int, int, int, int) boolean, "
        + "length(int) int, level(int, int) int, most(boolean) int, output(int) int, read() int, turn() boolean, "
        + "value(int) long, write(int) int]";

    public static void main(String[] args) throws Exception {
        members();
        limits();
        room();
        source();
        CHECK.finish();
    }

    private static void members() throws Exception {
        Class<?> face = PageForm.class;
        CHECK.due("the class", Modifier.toString(face.getModifiers()), "public final");
        Set<String> shown = new TreeSet<>();
        for (Method method : face.getDeclaredMethods()) {
            if (Modifier.isPrivate(method.getModifiers())) {
                notOfTheFace(method);
                continue;
            }
            CHECK.due(method.getName(), Modifier.toString(method.getModifiers()), "public");
            StringJoiner types = new StringJoiner(", ", "(", ")");
            for (Class<?> type : method.getParameterTypes()) {
                types.add(type.getName());
            }
            shown.add(method.getName() + types + " " + method.getReturnType());
        }
        CHECK.due("the methods", shown.toString(), METHODS);
        for (Field field : face.getDeclaredFields()) {
            boolean hidden = Modifier.isPrivate(field.getModifiers());
            CHECK.due("the field " + field.getName() + " is hidden", hidden, !field.getName().equals("NONE"));
            CHECK.due("the field " + field.getName() + " is fixed if static",
                Modifier.isStatic(field.getModifiers()) && !Modifier.isFinal(field.getModifiers()), false);
        }
        CHECK.due("NONE", Modifier.toString(face.getField("NONE").getModifiers()), "public static final");
        CHECK.due("NONE", PageForm.NONE, -1);
        for (Constructor<?> made : face.getDeclaredConstructors()) {
            CHECK.due("the constructor", made.toString(), "public PageForm()");
        }
        for (Class<?> inside : face.getDeclaredClasses()) {
            CHECK.due(inside.getName() + " is static", Modifier.isStatic(inside.getModifiers()), true);
            CHECK.due(inside.getName() + " is shown", Modifier.isPublic(inside.getModifiers()), false);
            for (Method method : inside.getDeclaredMethods()) {
                notOfTheFace(method);
            }
        }
    }

    private static void notOfTheFace(Method method) {
        boolean taken = METHODS.contains("[" + method.getName() + "(") || METHODS.contains(" " + method.getName() + "(");
        CHECK.due("a name of the face is used again: " + method.getName(), taken, false);
    }

    /** LANGUAGE.md, rule 11: what can be counted. */
    private static void limits() {
        List<Class<?>> all = new ArrayList<>(List.of(PageForm.class.getDeclaredClasses()));
        all.add(PageForm.class);
        CHECK.due("at most twelve classes", all.size() <= 12, true);
        for (Class<?> one : all) {
            long fields = Stream.of(one.getDeclaredFields()).filter(f -> !Modifier.isStatic(f.getModifiers())).count();
            CHECK.due("at most twenty fields in " + one.getName(), fields <= 20, true);
            for (Method method : one.getDeclaredMethods()) {
                CHECK.due("at most seven parameters of " + method, method.getParameterCount() <= 7, true);
            }
        }
    }

    /** An object with all its rows takes little of the room of one run, which has 7300000 elements. */
    private static void room() throws Exception {
        long elements = elementsOf(new PageForm(), new IdentityHashMap<>());
        CHECK.due("an object has at most 250000 elements", elements <= 250000, true);
    }

    private static long elementsOf(Object object, Map<Object, Boolean> counted) throws Exception {
        if (object == null || counted.put(object, true) != null) {
            return 0;
        }
        if (object.getClass().isArray()) {
            return Array.getLength(object);
        }
        long elements = 0;
        for (Field field : object.getClass().getDeclaredFields()) {
            if (Modifier.isStatic(field.getModifiers())) {
                continue;
            }
            elements++;
            if (!field.getType().isPrimitive()) {
                field.setAccessible(true);
                elements += elementsOf(field.get(object), counted);
            }
        }
        return elements;
    }

    private static void source() throws Exception {
        String all = Files.readString(Path.of("src/main/java/PageForm.java"));
        String code = all.replaceAll("(?s)/\\*.*?\\*/", "").replaceAll("//[^\n]*", "");
        String[] without = {
            "->", "::", "\\btry\\b", "\\bcatch\\b", "\\bfinally\\b", "\\bsynchronized\\b", "\\bassert\\b",
            "Exact\\(", "\\bpackage\\b", "\\bSystem\\.(?!arraycopy)", "\\bprotected\\b", "\\bdouble\\b", "\\bfloat\\b",
        };
        for (String form : without) {
            CHECK.due("the program holds " + form, Pattern.compile(form).matcher(code).find(), false);
        }
        // All that is made is made for a field: a call makes nothing.
        Matcher made = Pattern.compile("(?m)^(.*)\\bnew\\b.*$").matcher(code);
        Pattern field = Pattern.compile("( {4}| {8})private (final )?\\S+ \\S+ = | {8}final \\S+ \\S+ = "
            + "| {12}(numbers|texts|starts|row|source) = ");
        while (made.find()) {
            CHECK.due("made in a call:" + made.group(), field.matcher(made.group(1)).matches(), true);
        }
        Matcher imports = Pattern.compile("import ([^;]*);").matcher(code);
        while (imports.find()) {
            CHECK.due("import", imports.group(1), "java.util.Arrays");
        }
        Matcher library = Pattern.compile("\\b(Arrays|Math|Long|Integer|System)\\.(\\w+)").matcher(code);
        Set<String> allowed = Set.of("Arrays.fill", "Math.min", "Long.compare", "Integer.compare", "System.arraycopy");
        while (library.find()) {
            CHECK.due("the library's " + library.group(), allowed.contains(library.group()), true);
        }
    }
}
