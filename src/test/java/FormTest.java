import java.io.IOException;
import java.lang.reflect.Field;
import java.lang.reflect.Method;
import java.lang.reflect.Modifier;
import java.nio.file.Files;
import java.nio.file.Path;
import java.util.ArrayList;
import java.util.List;
import java.util.Set;
import java.util.TreeSet;
import java.util.regex.Matcher;
import java.util.regex.Pattern;

/** The form of the program, by the rules of LANGUAGE.md that can be seen in its text and in its classes. */
public final class FormTest {
    private static final Path PROGRAM = Path.of("src/main/java/DieGraphs.java");
    private static final String[] WORDS_LEFT_OUT = {"package", "import", "try", "catch", "finally", "synchronized",
        "assert", "protected", "native", "strictfp", "volatile", "transient", "double", "float", "getMessage"};
    private static final String[] SIGNS_LEFT_OUT = {"->", "::", "static {", "@", "[][]"};
    private static final Set<String> LIBRARY = Set.of("Integer.bitCount", "Math.min", "Math.max");
    private static final String GOOD_THROW =
            "throw new (IndexOutOfBounds|IllegalArgument|IllegalState)Exception\\(\"[^\"]*\"\\);";

    private static List<String> lines;
    private static String code;

    public static void main(String[] args) throws IOException {
        lines = Files.readAllLines(PROGRAM);
        code = withoutTextsAndComments(String.join("\n", lines));
        leftOut();
        library();
        exceptions();
        objects();
        lengthsOfMethods();
        List<Class<?>> classes = new ArrayList<>(List.of(DieGraphs.class));
        classes.addAll(List.of(DieGraphs.class.getDeclaredClasses()));
        classesInside(classes);
        for (Class<?> type : classes) {
            fields(type);
            methods(type);
        }
        Check.done();
    }

    private static String withoutTextsAndComments(String text) {
        return text.replaceAll("\"[^\"\n]*\"", "\"\"").replaceAll("(?s)/\\*.*?\\*/", "").replaceAll("//[^\n]*", "");
    }

    /** Rules 1 to 3, 6 and 10: what the program does without. */
    private static void leftOut() {
        for (String word : WORDS_LEFT_OUT) {
            Check.same("the word " + word, has("\\b" + word + "\\b"), false);
        }
        for (String signs : SIGNS_LEFT_OUT) {
            Check.same("the signs " + signs, code.contains(signs), false);
        }
    }

    private static boolean has(String pattern) {
        return Pattern.compile(pattern).matcher(code).find();
    }

    /** Rule 4. */
    private static void library() {
        Set<String> own = new TreeSet<>();
        for (Class<?> type : DieGraphs.class.getDeclaredClasses()) {
            own.add(type.getSimpleName());
        }
        Matcher used = Pattern.compile("\\b([A-Z][A-Za-z]*[a-z])\\.(\\w+)").matcher(code);
        while (used.find()) {
            boolean known = own.contains(used.group(1)) || LIBRARY.contains(used.group());
            Check.same(used.group() + " is listed", known, true);
        }
    }

    /** Rule 6. */
    private static void exceptions() {
        for (String line : lines) {
            if (line.contains("throw ")) {
                Check.same(line.strip(), line.strip().matches(GOOD_THROW), true);
            }
        }
    }

    /** Rule 12, and the one room of all calls: what is made is made with the object. */
    private static void objects() {
        for (String line : code.split("\n")) {
            if (line.contains("new ") && !line.contains("throw new ")) {
                boolean inConstructor = line.matches(" {8}.*= new [A-Z]\\w+\\((known)?\\);");
                boolean inField = line.matches(" {8}private final \\w+\\[\\] \\w+ = new \\w+\\[[A-Z_+*1 ]+\\];");
                Check.same("made with the object:" + line, inConstructor || inField, true);
            }
        }
    }

    /** Rule 11. */
    private static void lengthsOfMethods() {
        int from = -1;
        for (int i = 0; i < lines.size(); i++) {
            String line = lines.get(i);
            if (line.matches(" {4}(?: {4})?[a-z].*\\(.*") && !line.endsWith(";")) {
                from = i;
            }
            if (line.matches(" {4}(?: {4})?\\}") && from >= 0) {
                Check.same(lines.get(from).strip() + " is short", i - from <= 60, true);
                from = -1;
            }
        }
    }

    /** Rules 1, 2 and 11. */
    private static void classesInside(List<Class<?>> classes) {
        Check.same("at most twelve classes", classes.size() <= 12, true);
        for (Class<?> type : classes.subList(1, classes.size())) {
            int modifiers = type.getModifiers();
            Check.same(type + " is static", Modifier.isStatic(modifiers), true);
            Check.same(type + " is public or protected",
                    Modifier.isPublic(modifiers) || Modifier.isProtected(modifiers), false);
            Check.same("classes inside " + type, type.getDeclaredClasses().length, 0);
        }
    }

    /** Rules 5 and 11. */
    private static void fields(Class<?> type) {
        int ofObjects = 0;
        for (Field field : type.getDeclaredFields()) {
            if (Modifier.isStatic(field.getModifiers())) {
                Check.same(field + " is final", Modifier.isFinal(field.getModifiers()), true);
                Check.same(field + " is a number", field.getType() == int.class, true);
            } else {
                ofObjects++;
            }
        }
        Check.same("at most twenty fields in " + type, ofObjects <= 20, true);
    }

    /** Rules 6 and 11. */
    private static void methods(Class<?> type) {
        for (Method method : type.getDeclaredMethods()) {
            Check.same(method + " takes at most seven parameters", method.getParameterCount() <= 7, true);
            Set<String> objects = Set.of("equals", "hashCode", "toString", "finalize", "clone");
            Check.same(method + " is one of every object", objects.contains(method.getName()), false);
        }
    }
}
