import java.io.IOException;
import java.lang.reflect.Constructor;
import java.lang.reflect.Field;
import java.lang.reflect.Method;
import java.lang.reflect.Modifier;
import java.nio.file.Files;
import java.nio.file.Path;
import java.util.Arrays;
import java.util.Set;
import java.util.TreeSet;
import java.util.regex.Matcher;
import java.util.regex.Pattern;
import java.util.stream.Collectors;

/** The public face is the document's, and what of LANGUAGE.md a test can see is kept to. */
public final class FaceTest {
    private static final Checks CHECKS = new Checks("FaceTest");
    private static final Path SOURCE = Path.of("src/main/java/ArchiveDesk.java");
    private static final Path DOCUMENT = Path.of("../shared/DOC.md");
    /** Promises 2 to 22 have one each. */
    private static final int CALLS = 21;
    private static final String CALL = "((?:void|int|boolean) \\w+\\(.*\\).*)";

    private FaceTest() {
    }

    /** The calls that stand in lines of that form, without the names of what they are given. */
    private static Set<String> shapes(String document, String form) {
        Set<String> shapes = new TreeSet<>();
        Matcher line = Pattern.compile("(?m)" + form).matcher(document);
        while (line.find()) {
            shapes.add(line.group(1).replaceAll("(int|boolean) \\w+(?=[,)])", "$1"));
        }
        return shapes;
    }

    private static String names(Class<?>[] types) {
        return Arrays.stream(types).map(Class::getSimpleName).collect(Collectors.joining(", "));
    }

    private static String shape(Method method) {
        String thrown = names(method.getExceptionTypes());
        return method.getReturnType().getSimpleName() + " " + method.getName() + "("
                + names(method.getParameterTypes()) + ")" + (thrown.isEmpty() ? "" : " throws " + thrown);
    }

    private static void face(Set<String> due) throws ReflectiveOperationException {
        Class<?> desk = ArchiveDesk.class;
        CHECKS.due("public and final", desk.getModifiers(), Modifier.PUBLIC | Modifier.FINAL);
        Set<String> shapes = new TreeSet<>();
        for (Method method : desk.getDeclaredMethods()) {
            if (Modifier.isPublic(method.getModifiers())) {
                shapes.add(shape(method));
                CHECKS.due("not static: " + method, Modifier.isStatic(method.getModifiers()), false);
            } else {
                CHECKS.due("private: " + method, Modifier.isPrivate(method.getModifiers()), true);
            }
        }
        CHECKS.due("methods", shapes.toString(), due.toString());
        for (Field field : desk.getDeclaredFields()) {
            boolean none = field.getName().equals("NONE");
            int want = Modifier.PUBLIC | Modifier.STATIC | Modifier.FINAL;
            CHECKS.due("field " + field, none ? field.getModifiers() == want
                    : Modifier.isPrivate(field.getModifiers()), true);
        }
        CHECKS.due("NONE", desk.getField("NONE").getInt(null), -1);
        Constructor<?>[] constructors = desk.getDeclaredConstructors();
        CHECKS.due("constructors", constructors.length, 1);
        CHECKS.due("is public", constructors[0].getModifiers(), Modifier.PUBLIC);
        CHECKS.due("without arguments", constructors[0].getParameterCount(), 0);
    }

    private static void classesInside(Set<String> due) {
        Set<String> face = due.stream().map(shape -> shape.replaceAll("\\(.*", ""))
                .map(shape -> shape.replaceAll(".* ", "")).collect(Collectors.toSet());
        CHECKS.due("names of the face", face.size(), due.size());
        for (Class<?> inside : ArchiveDesk.class.getDeclaredClasses()) {
            int modifiers = inside.getModifiers();
            CHECKS.due("static: " + inside, Modifier.isStatic(modifiers), true);
            CHECKS.due("hidden: " + inside,
                    Modifier.isPublic(modifiers) || Modifier.isProtected(modifiers), false);
            CHECKS.due("some twenty fields: " + inside, inside.getDeclaredFields().length <= 20, true);
            for (Method method : inside.getDeclaredMethods()) {
                CHECKS.due("a name of its own: " + method, face.contains(method.getName()), false);
                CHECKS.due("seven parameters: " + method, method.getParameterCount() <= 7, true);
            }
        }
        CHECKS.due("some twelve classes", ArchiveDesk.class.getDeclaredClasses().length <= 11, true);
    }

    private static void text() throws IOException {
        String code = Files.readString(SOURCE).replaceAll("(?s)/\\*.*?\\*/", "").replaceAll("//.*", "");
        String[] words = {
            "import", "package", "try", "catch", "finally", "synchronized", "assert", "lambda",
            "instanceof", "hashCode", "equals", "toString", "double", "float", "static \\{", "->", "::",
            "Exact", "java\\."};
        for (String word : words) {
            boolean plain = Character.isLetter(word.charAt(0)) && word.matches("\\w+");
            Matcher matcher = Pattern.compile(plain ? "\\b" + word + "\\b" : word).matcher(code);
            CHECKS.due("without " + word, matcher.find(), false);
        }
        Matcher thrown = Pattern.compile("throw (.*)").matcher(code);
        while (thrown.find()) {
            String form = "new (IllegalState|IllegalArgument|IndexOutOfBounds)Exception\\(\"[^\"]*\"\\);";
            CHECKS.due("throw " + thrown.group(1), thrown.group(1).matches(form), true);
        }
    }

    public static void main(String[] args) throws IOException, ReflectiveOperationException {
        String document = Files.readString(DOCUMENT);
        Set<String> due = shapes(document, "^    public " + CALL + ";$");
        CHECKS.due("calls of the face", due.size(), CALLS);
        CHECKS.due("calls of the promises", shapes(document, "^`" + CALL + "`:").toString(), due.toString());
        face(due);
        classesInside(due);
        text();
        CHECKS.finish();
    }
}
