import java.io.IOException;
import java.lang.reflect.Field;
import java.lang.reflect.Method;
import java.lang.reflect.Modifier;
import java.nio.file.Files;
import java.nio.file.Path;
import java.util.ArrayList;
import java.util.Arrays;
import java.util.List;
import java.util.Set;
import java.util.TreeSet;
import java.util.regex.Matcher;
import java.util.regex.Pattern;

/** What can be seen of LANGUAGE.md's rules in the class and in its source. */
public final class LanguageTest {
    private static final Check CHECK = new Check();
    private static final int MOST_CLASSES = 12;
    private static final int MOST_FIELDS = 20;
    private static final int MOST_PARAMETERS = 7;
    private static final int MOST_LINES = 60;

    private LanguageTest() {
    }

    public static void main(String[] args) throws IOException {
        String path = args.length > 0 ? args[0] : "src/main/java/RoundBounds.java";
        String code = withoutComments(Files.readString(Path.of(path)));
        CHECK.due("at most twelve classes", allClasses().size() <= MOST_CLASSES, true);
        for (Class<?> c : allClasses()) {
            membersOf(c);
        }
        wordsOf(code);
        libraryOf(code);
        exceptionsOf(code);
        methodsOf(code);
        CHECK.end();
    }

    private static String withoutComments(String source) {
        return source.replaceAll("(?s)/\\*.*?\\*/", "").replaceAll("//[^\n]*", "");
    }

    private static List<Class<?>> allClasses() {
        List<Class<?>> all = new ArrayList<>(Arrays.asList(RoundBounds.class.getDeclaredClasses()));
        all.add(RoundBounds.class);
        return all;
    }

    /** Rules 1, 2, 3, 5 and 11. */
    private static void membersOf(Class<?> c) {
        if (c != RoundBounds.class) {
            CHECK.due("rule 1: " + c + " is static", Modifier.isStatic(c.getModifiers()), true);
            CHECK.due("rule 2: classes inside " + c, c.getDeclaredClasses().length, 0);
        }
        int fields = 0;
        for (Field f : c.getDeclaredFields()) {
            boolean ofClass = Modifier.isStatic(f.getModifiers());
            fields += ofClass ? 0 : 1;
            CHECK.due("rule 5: " + f + " is final or an object's",
                    !ofClass || Modifier.isFinal(f.getModifiers()), true);
            CHECK.due("rule 3: the type of " + f, isAllowed(f.getType()), true);
        }
        CHECK.due("rule 11: fields of " + c, fields <= MOST_FIELDS, true);
        Set<String> face = new TreeSet<>();
        for (Method m : RoundBounds.class.getDeclaredMethods()) {
            if (Modifier.isPublic(m.getModifiers())) {
                face.add(m.getName());
            }
        }
        for (Method m : c.getDeclaredMethods()) {
            boolean ofFace = c == RoundBounds.class && Modifier.isPublic(m.getModifiers());
            CHECK.due("rule 1: " + m + " bears a name of the face",
                    !ofFace && face.contains(m.getName()), false);
            CHECK.due("rule 11: parameters of " + m, m.getParameterCount() <= MOST_PARAMETERS,
                    true);
        }
    }

    /** Numbers, rows and tables of numbers, and classes of its own; it needs no other. */
    private static boolean isAllowed(Class<?> type) {
        if (type.isArray()) {
            Class<?> of = type.getComponentType();
            return of.isPrimitive() || of.isArray() && of.getComponentType().isPrimitive();
        }
        return type.isPrimitive() || type.getName().startsWith("RoundBounds$");
    }

    /** Rules 2, 6, 9, 10 and 13: what the source never holds. */
    private static void wordsOf(String code) {
        String[] never = {"->", "::", "try", "catch", "finally", "synchronized", "assert", "System",
            "Random", "Thread", "package", "static {", "while", "null", "double", "float",
            "toString", "equals", "hashCode", "instanceof", "interface", "extends"};
        for (String word : never) {
            CHECK.due("source holds " + word, code.contains(word), false);
        }
        for (String line : code.split("\n")) {
            if (line.startsWith("import ")) {
                CHECK.due("rule 4: import", line, "import java.util.Arrays;");
            }
            CHECK.due("a line of at most 100: " + line, line.length() <= 100, true);
        }
    }

    /** Rule 4: only these of the library. */
    private static void libraryOf(String code) {
        Set<String> allowed = Set.of("Arrays.fill", "Math.max", "Math.min", "Integer.bitCount",
                "Integer.numberOfTrailingZeros", "Integer.MAX_VALUE");
        Matcher used = Pattern.compile("\\b(Arrays|Math|Integer|Long|String|List)\\.\\w+")
                .matcher(code.replaceAll("import [^\n]*", ""));
        while (used.find()) {
            CHECK.due("rule 4: " + used.group(), allowed.contains(used.group()), true);
        }
    }

    /** Rule 6, and the document's two exceptions: each is thrown in one place, with a text. */
    private static void exceptionsOf(String code) {
        List<String> thrown = new ArrayList<>();
        Matcher found = Pattern.compile("throw [^;]*;").matcher(code);
        while (found.find()) {
            thrown.add(found.group());
        }
        CHECK.due("rule 6: thrown", thrown.toString(),
                "[throw new ArrayIndexOutOfBoundsException(\"no such place\");, "
                + "throw new ArithmeticException(\"side is 0\");]");
    }

    /** Rule 11: a method's end is the brace that stands as far in as its head. */
    private static void methodsOf(String code) {
        Matcher found = Pattern.compile(
                "(?ms)^( +)((?:public |private |static |final )*[\\w\\[\\]]+ ?\\w*\\([^;{]*\\{)$"
                + "(.*?)^\\1\\}$").matcher(code);
        int methods = 0;
        while (found.find()) {
            methods++;
            long lines = found.group(3).lines().count() + 1;
            CHECK.due("rule 11: lines of " + found.group(2).strip() + ": " + lines,
                    lines <= MOST_LINES, true);
        }
        CHECK.due("methods were found", methods > 50, true);
    }
}
