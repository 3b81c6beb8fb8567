import java.io.IOException;
import java.lang.reflect.Field;
import java.lang.reflect.Method;
import java.lang.reflect.Modifier;
import java.nio.charset.StandardCharsets;
import java.nio.file.Files;
import java.nio.file.Path;
import java.util.ArrayList;
import java.util.List;
import java.util.Set;
import java.util.TreeSet;
import java.util.regex.Matcher;
import java.util.regex.Pattern;

/**
 * The rules of LANGUAGE.md that can be read off the program's text or its classes, by number. It
 * is narrower than they are: what the program has no need of is refused, too.
 */
public final class LanguageTest {
    private static final Path PROGRAM = Path.of("src/main/java/FirstTrees.java");

    private static final String[] REFUSED_WORDS = {
        "import", "package", "try", "catch", "finally", "synchronized", "assert", "instanceof",
        "double", "float", "protected", "volatile", "native",
    };
    private static final String[] REFUSED_SIGNS = {
        "->", "::", "@", "static {", "while (true)", "for (;;)", "java.", "System", "Exact(",
    };
    private static final Set<String> LIBRARY = Set.of("Math.max", "Math.min", "Integer.bitCount");
    private static final Set<String> THROWN =
            Set.of(
                    "IllegalStateException",
                    "IllegalArgumentException",
                    "IndexOutOfBoundsException",
                    "UnsupportedOperationException");

    private static final int MOST_LINES = 60;
    private static final int MOST_PARAMETERS = 7;
    private static final int MOST_CLASSES = 12;
    private static final int MOST_FIELDS = 20;

    public static void main(String[] args) throws IOException {
        String source = Files.readString(PROGRAM, StandardCharsets.UTF_8);
        String code = withoutComments(source);
        List<Class<?>> classes = classesIn(FirstTrees.class);
        namesOfTheFace(classes);
        classesInside(classes);
        typesOfFields(classes);
        wordsAndSigns(withoutTexts(code));
        libraryCalls(withoutTexts(code), classes);
        throwStatements(code);
        sizes(classes);
        lengthsOfMethods(code);
        Checks.due("characters above 127", source.chars().anyMatch(c -> c > 127), false);
        Checks.end();
    }

    private static List<Class<?>> classesIn(Class<?> outer) {
        List<Class<?>> all = new ArrayList<>();
        all.add(outer);
        for (Class<?> inside : outer.getDeclaredClasses()) {
            all.addAll(classesIn(inside));
        }
        return all;
    }

    private static String withoutComments(String source) {
        return source.replaceAll("(?s)/\\*.*?\\*/", "").replaceAll("//[^\n]*", "");
    }

    private static String withoutTexts(String code) {
        return code.replaceAll("\"[^\"\n]*\"", "\"\"");
    }

    /** Rule 1: "No private method bears the name of a public one." */
    private static void namesOfTheFace(List<Class<?>> classes) {
        Set<String> face = new TreeSet<>();
        for (Method method : FirstTrees.class.getDeclaredMethods()) {
            if (Modifier.isPublic(method.getModifiers())) {
                face.add(method.getName());
            }
        }
        for (Class<?> type : classes) {
            for (Method method : type.getDeclaredMethods()) {
                boolean isPublic = Modifier.isPublic(method.getModifiers());
                boolean bearsName = !isPublic && face.contains(method.getName());
                Checks.due("rule 1: " + method + " bears a name of the face", bearsName, false);
            }
        }
    }

    /** Rules 1 and 2: the classes inside are private and static, and none is nameless. */
    private static void classesInside(List<Class<?>> classes) {
        for (Class<?> type : classes) {
            if (type != FirstTrees.class) {
                int want = Modifier.PRIVATE | Modifier.STATIC | Modifier.FINAL;
                Checks.due("rule 1: modifiers of " + type, type.getModifiers(), want);
                Checks.due("rule 6: " + type + " extends", nameOfSuper(type), "java.lang.Object");
            }
            for (Method method : type.getDeclaredMethods()) {
                Checks.due("rule 2: " + method + " is made by javac", method.isSynthetic(), false);
            }
        }
    }

    private static String nameOfSuper(Class<?> type) {
        return type.getSuperclass().getName();
    }

    /** Rules 3 and 5. */
    private static void typesOfFields(List<Class<?>> classes) {
        for (Class<?> type : classes) {
            for (Field field : type.getDeclaredFields()) {
                if (Modifier.isStatic(field.getModifiers())) {
                    boolean isFinal = Modifier.isFinal(field.getModifiers());
                    Checks.due("rule 5: " + field + " is final", isFinal, true);
                    Checks.due("rule 5: " + field, field.getType().getName(), "int");
                } else {
                    boolean isRight = isOwnOrNumber(field.getType(), classes);
                    Checks.due("rule 3: the type of " + field + " is right", isRight, true);
                }
            }
        }
    }

    private static boolean isOwnOrNumber(Class<?> type, List<Class<?>> classes) {
        Class<?> single = type.isArray() ? type.getComponentType() : type;
        return single == int.class
                || single == long.class
                || single == boolean.class
                || classes.contains(single);
    }

    /** Rules 2, 4, 6, 9, 10 and 13. */
    private static void wordsAndSigns(String code) {
        for (String word : REFUSED_WORDS) {
            boolean has = Pattern.compile("\\b" + word + "\\b").matcher(code).find();
            Checks.due("the program has the word " + word, has, false);
        }
        for (String sign : REFUSED_SIGNS) {
            Checks.due("the program has " + sign, code.contains(sign), false);
        }
        boolean joins = Pattern.compile("\"\\s*\\+|\\+\\s*\"").matcher(code).find();
        Checks.due("rule 10: texts are joined by +", joins, false);
    }

    /** Rules 4 and 13: what is called on a class is its own, or among what the library may do. */
    private static void libraryCalls(String code, List<Class<?>> classes) {
        Set<String> own = new TreeSet<>();
        for (Class<?> type : classes) {
            own.add(type.getSimpleName());
        }
        Matcher call = Pattern.compile("\\b([A-Z][a-z]\\w*)\\.(\\w+)").matcher(code);
        while (call.find()) {
            boolean isRight = own.contains(call.group(1)) || LIBRARY.contains(call.group());
            Checks.due("rule 4: " + call.group() + " is allowed", isRight, true);
        }
        Matcher made = Pattern.compile("new ([A-Z]\\w*)").matcher(code);
        while (made.find()) {
            String name = made.group(1);
            boolean isRight = own.contains(name) || THROWN.contains(name);
            Checks.due("rule 4: new " + name + " is allowed", isRight, true);
        }
    }

    /** Rule 6: "throw new E() or throw new E("a written text")". */
    private static void throwStatements(String code) {
        Matcher thrown = Pattern.compile("\\bthrow\\b[^;]*;").matcher(code);
        Pattern right = Pattern.compile("throw new (\\w+)\\((\"[^\"]*\")?\\);");
        while (thrown.find()) {
            Matcher parts = right.matcher(thrown.group());
            boolean isRight = parts.matches() && THROWN.contains(parts.group(1));
            Checks.due("rule 6: " + thrown.group() + " is allowed", isRight, true);
        }
    }

    /** Rule 11. */
    private static void sizes(List<Class<?>> classes) {
        Checks.due("rule 11: not too many classes", classes.size() <= MOST_CLASSES, true);
        for (Class<?> type : classes) {
            int fields = 0;
            for (Field field : type.getDeclaredFields()) {
                fields += Modifier.isStatic(field.getModifiers()) ? 0 : 1;
            }
            Checks.due("rule 11: not too many fields in " + type, fields <= MOST_FIELDS, true);
            for (Method method : type.getDeclaredMethods()) {
                boolean isRight = method.getParameterCount() <= MOST_PARAMETERS;
                Checks.due("rule 11: not too many parameters of " + method, isRight, true);
            }
        }
    }

    /** Rule 11; a method begins where a line, its throws on it, has parameters and a brace. */
    private static void lengthsOfMethods(String code) {
        String[] lines = code.replaceAll("\\s+throws |,\\s+", " ").split("\n");
        Pattern head = Pattern.compile("( {4}| {8})(\\w.*)?\\w+\\([^;]*\\{");
        for (int from = 0; from < lines.length; from++) {
            if (head.matcher(lines[from]).matches()) {
                int length = lengthOf(lines, from);
                Checks.due("rule 11: short: " + lines[from], length <= MOST_LINES, true);
            }
        }
    }

    private static int lengthOf(String[] lines, int from) {
        int open = 0;
        for (int line = from; line < lines.length; line++) {
            open += numberOf('{', lines[line]) - numberOf('}', lines[line]);
            if (open == 0) {
                return line - from + 1;
            }
        }
        return lines.length;
    }

    private static int numberOf(char c, String line) {
        return (int) line.chars().filter(each -> each == c).count();
    }
}
