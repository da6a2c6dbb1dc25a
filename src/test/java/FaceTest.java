import java.io.IOException;
import java.lang.reflect.Constructor;
import java.lang.reflect.Field;
import java.lang.reflect.Method;
import java.lang.reflect.Modifier;
import java.nio.file.Files;
import java.nio.file.Path;
import java.util.ArrayList;
import java.util.Arrays;
import java.util.List;
import java.util.TreeSet;
import java.util.regex.Matcher;
import java.util.regex.Pattern;
import java.util.stream.Collectors;

/** "The public face" of the document: just its members, as it declares them, and nothing else that is not private. */
public final class FaceTest {
    private static final Pattern METHOD = Pattern.compile("public (\\w+ \\w+\\([^)]*\\)[^;]*);");
    private static final Pattern CONSTANTS = Pattern.compile("public static final int ([^;]*);");
    private static final Pattern PROMISE = Pattern.compile("(?ms)^## Promise \\d+: (.*?)$(.*?)(?=^## |\\z)");

    private final Check check = new Check();
    private final Class<?> made = ClipHibernation.class;
    private final String document;
    private final String face;

    private FaceTest(String document) {
        this.document = document;
        int begin = document.indexOf("```java\n", document.indexOf("## The public face"));
        face = plain(document.substring(begin, document.indexOf("\n```\n", begin)));
    }

    public static void main(String[] args) throws IOException, IllegalAccessException {
        Path shared = Path.of(System.getProperty("shared", "../shared"));
        Path project = Path.of(System.getProperty("project", "."));
        FaceTest test = new FaceTest(Files.readString(shared.resolve("DOC.md")));
        test.classAndConstructor();
        test.methods();
        test.constants();
        test.promisesDeclareTheSame();
        test.source(plain(Files.readString(project.resolve("src/main/java/ClipHibernation.java"))));
        test.check.end();
    }

    private static String plain(String text) {
        return text.replaceAll("\\s+", " ");
    }

    private static List<String> found(Pattern pattern, String text) {
        return pattern.matcher(text).results().map(result -> result.group(1)).collect(Collectors.toList());
    }

    private void classAndConstructor() {
        check.due("modifiers of the class", made.getModifiers(), Modifier.PUBLIC | Modifier.FINAL);
        check.dueText("its package", made.getPackageName(), "");
        check.dueText("what it extends", made.getSuperclass().getName(), "java.lang.Object");
        check.due("what it implements", made.getInterfaces().length, 0);
        Constructor<?>[] constructors = made.getDeclaredConstructors();
        check.due("constructors", constructors.length, 1);
        check.due("parameters of the constructor", constructors[0].getParameterCount(), 0);
        check.due("modifiers of the constructor", constructors[0].getModifiers(), Modifier.PUBLIC);
        check.due("exceptions of the constructor", constructors[0].getExceptionTypes().length, 0);
        for (Class<?> inside : made.getDeclaredClasses()) {
            int seen = inside.getModifiers() & (Modifier.PUBLIC | Modifier.PROTECTED);
            check.due(inside.getName() + " is seen from outside", seen, 0);
        }
    }

    private void methods() {
        TreeSet<String> due = new TreeSet<>();
        for (String method : found(METHOD, face)) {
            due.add(method.replaceAll("int \\w+([,)])", "int$1"));
        }
        TreeSet<String> seen = new TreeSet<>();
        TreeSet<String> names = new TreeSet<>();
        for (Method method : made.getDeclaredMethods()) {
            if (!Modifier.isPrivate(method.getModifiers())) {
                check.due("modifiers of " + method.getName(), method.getModifiers(), Modifier.PUBLIC);
                seen.add(declaration(method));
                names.add(method.getName());
            }
        }
        check.dueText("the methods", String.join("\n", seen), String.join("\n", due));
        check.due("how many methods", seen.size(), 62);
        for (Method method : made.getDeclaredMethods()) {
            boolean hidden = Modifier.isPrivate(method.getModifiers());
            check.due(method.getName() + " bears a public name", hidden && names.contains(method.getName()) ? 1 : 0, 0);
        }
    }

    private static String declaration(Method method) {
        String thrown = simpleNames(method.getExceptionTypes());
        return method.getReturnType().getName() + " " + method.getName() + "(" + simpleNames(method.getParameterTypes()) + ")"
                + (thrown.isEmpty() ? "" : " throws " + thrown);
    }

    private static String simpleNames(Class<?>[] types) {
        return Arrays.stream(types).map(Class::getSimpleName).collect(Collectors.joining(", "));
    }

    private void constants() throws IllegalAccessException {
        TreeSet<String> due = new TreeSet<>();
        for (String constants : found(CONSTANTS, face)) {
            due.addAll(List.of(constants.split(", ")));
            check.due("the terms tell of " + constants, document.contains("`" + constants + "`: ") ? 1 : 0, 1);
        }
        TreeSet<String> seen = new TreeSet<>();
        for (Field field : made.getDeclaredFields()) {
            if (!Modifier.isPrivate(field.getModifiers())) {
                int modifiers = Modifier.PUBLIC | Modifier.STATIC | Modifier.FINAL;
                check.due("modifiers of " + field.getName(), field.getModifiers(), modifiers);
                check.dueText("the type of " + field.getName(), field.getType().getName(), "int");
                seen.add(field.getName() + " = " + field.getInt(null));
            }
        }
        check.dueText("the constants", seen.toString(), due.toString());
        check.due("how many constants", seen.size(), 10);
    }

    /** Each section of a promise declares its call as the face does, with its exceptions in the same order. */
    private void promisesDeclareTheSame() {
        List<String> declared = new ArrayList<>();
        Matcher promise = PROMISE.matcher(document);
        while (promise.find()) {
            String text = promise.group(2);
            String declaration = text.substring(text.indexOf('`') + 1, text.indexOf("`:"));
            String thrown = String.join(", ", found(Pattern.compile("(?m)^Throws `(\\w+)` if "), text));
            int at = declaration.indexOf(" throws ");
            check.dueText("exceptions of " + promise.group(1), at < 0 ? "" : declaration.substring(at + 8), thrown);
            declared.add(declaration);
        }
        check.due("how many promises", declared.size(), 63);
        List<String> due = new ArrayList<>(found(METHOD, face));
        due.add(0, "ClipHibernation()");
        check.dueText("the calls in their order", String.join("\n", declared), String.join("\n", due));
    }

    /** The names of the parameters and the order of the calls are seen in the source alone. */
    private void source(String text) {
        int at = text.indexOf("public ClipHibernation() {");
        check.due("the constructor stands first", at > 0 ? 1 : 0, 1);
        for (String method : found(METHOD, face)) {
            int next = text.indexOf("public " + method + " {", at);
            check.due(method + " stands behind what is declared before it", next > at ? 1 : 0, 1);
            at = Math.max(at, next);
        }
        Matcher group = Pattern.compile("(?m)^Ahead of the calls `(\\w+)`.* the interface says: (---- .*)\\.$").matcher(document);
        while (group.find()) {
            String ahead = "// " + group.group(2) + " public \\w+ " + group.group(1) + "\\(";
            check.due("what stands ahead of " + group.group(1), Pattern.compile(ahead).matcher(text).find() ? 1 : 0, 1);
        }
    }
}
