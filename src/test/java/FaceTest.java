import java.io.IOException;
import java.lang.reflect.Constructor;
import java.lang.reflect.Field;
import java.lang.reflect.Method;
import java.lang.reflect.Modifier;
import java.nio.file.Files;
import java.nio.file.Path;
import java.util.Arrays;
import java.util.List;
import java.util.Set;
import java.util.TreeSet;
import java.util.regex.Matcher;
import java.util.regex.Pattern;
import java.util.stream.Collectors;

/** The public face is the document's, and what of LANGUAGE.md a test can see is kept to. */
public final class FaceTest {
    private static final Checks CHECKS = new Checks("FaceTest");
    private static final Path SOURCE = Path.of("src/main/java/ArchiveDesk.java");
    private static final String[] METHODS = {
        "void feed(int, int, int, int, int)",
        "int end(int, int)",
        "boolean cut(int)",
        "boolean drop(int)",
        "boolean flip(int, int)",
        "int take() throws IllegalStateException",
        "int add(int) throws IllegalArgumentException, IllegalStateException",
        "void replace(int) throws IndexOutOfBoundsException, IllegalArgumentException,"
            + " IllegalStateException",
        "void rename(int) throws IndexOutOfBoundsException, IllegalArgumentException,"
            + " IllegalStateException",
        "void remove(int) throws IndexOutOfBoundsException",
        "void sort()",
        "void clear()",
        "int make()",
        "int read() throws IllegalArgumentException",
        "int fault(int)",
        "int save()",
        "int file(int, int)",
        "int letter(int, boolean, int)",
        "int find()",
        "int output(int)",
        "int about(int)"};

    private FaceTest() {
    }

    private static String names(Class<?>[] types) {
        return Arrays.stream(types).map(Class::getSimpleName).collect(Collectors.joining(", "));
    }

    private static String shape(Method method) {
        String thrown = names(method.getExceptionTypes());
        return method.getReturnType().getSimpleName() + " " + method.getName() + "("
                + names(method.getParameterTypes()) + ")" + (thrown.isEmpty() ? "" : " throws " + thrown);
    }

    private static void face() throws ReflectiveOperationException {
        Class<?> desk = ArchiveDesk.class;
        CHECKS.due("public and final", desk.getModifiers(), Modifier.PUBLIC | Modifier.FINAL);
        Set<String> shapes = new TreeSet<>();
        for (Method method : desk.getDeclaredMethods()) {
            if (Modifier.isPublic(method.getModifiers())) {
                shapes.add(shape(method));
                CHECKS.due("not static: " + method, Modifier.isStatic(method.getModifiers()), false);
            } else {
                CHECKS.due("private: " + method, Modifier.isPrivate(method.getModifiers()), true);
            }
        }
        CHECKS.due("methods " + shapes, shapes.equals(new TreeSet<>(List.of(METHODS))), true);
        for (Field field : desk.getDeclaredFields()) {
            boolean none = field.getName().equals("NONE");
            int want = Modifier.PUBLIC | Modifier.STATIC | Modifier.FINAL;
            CHECKS.due("field " + field, none ? field.getModifiers() == want
                    : Modifier.isPrivate(field.getModifiers()), true);
        }
        CHECKS.due("NONE", desk.getField("NONE").getInt(null), -1);
        Constructor<?>[] constructors = desk.getDeclaredConstructors();
        CHECKS.due("constructors", constructors.length, 1);
        CHECKS.due("is public", constructors[0].getModifiers(), Modifier.PUBLIC);
        CHECKS.due("without arguments", constructors[0].getParameterCount(), 0);
    }

    private static void classesInside() {
        Set<String> face = Arrays.stream(METHODS).map(shape -> shape.replaceAll("\\(.*", ""))
                .map(shape -> shape.replaceAll(".* ", "")).collect(Collectors.toSet());
        CHECKS.due("names of the face", face.size(), METHODS.length);
        for (Class<?> inside : ArchiveDesk.class.getDeclaredClasses()) {
            int modifiers = inside.getModifiers();
            CHECKS.due("static: " + inside, Modifier.isStatic(modifiers), true);
            CHECKS.due("hidden: " + inside,
                    Modifier.isPublic(modifiers) || Modifier.isProtected(modifiers), false);
            CHECKS.due("some twenty fields: " + inside, inside.getDeclaredFields().length <= 20, true);
            for (Method method : inside.getDeclaredMethods()) {
                CHECKS.due("a name of its own: " + method, face.contains(method.getName()), false);
                CHECKS.due("seven parameters: " + method, method.getParameterCount() <= 7, true);
            }
        }
        CHECKS.due("some twelve classes", ArchiveDesk.class.getDeclaredClasses().length <= 11, true);
    }

    private static void text() throws IOException {
        String code = Files.readString(SOURCE).replaceAll("(?s)/\\*.*?\\*/", "").replaceAll("//.*", "");
        String[] words = {
            "import", "package", "try", "catch", "finally", "synchronized", "assert", "lambda",
            "instanceof", "hashCode", "equals", "toString", "double", "float", "static \\{", "->", "::",
            "Exact", "java\\."};
        for (String word : words) {
            boolean plain = Character.isLetter(word.charAt(0)) && word.matches("\\w+");
            Matcher matcher = Pattern.compile(plain ? "\\b" + word + "\\b" : word).matcher(code);
            CHECKS.due("without " + word, matcher.find(), false);
        }
        Matcher thrown = Pattern.compile("throw (.*)").matcher(code);
        while (thrown.find()) {
            String form = "new (IllegalState|IllegalArgument|IndexOutOfBounds)Exception\\(\"[^\"]*\"\\);";
            CHECKS.due("throw " + thrown.group(1), thrown.group(1).matches(form), true);
        }
    }

    public static void main(String[] args) throws IOException, ReflectiveOperationException {
        face();
        classesInside();
        text();
        CHECKS.finish();
    }
}
