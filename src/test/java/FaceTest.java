import java.io.IOException;
import java.lang.reflect.Constructor;
import java.lang.reflect.Executable;
import java.lang.reflect.Field;
import java.lang.reflect.Method;
import java.lang.reflect.Modifier;
import java.nio.file.Files;
import java.nio.file.Path;
import java.util.Set;
import java.util.StringJoiner;
import java.util.TreeSet;

/** The public face is the document's, each member as it stands there, and no other. */
public final class FaceTest {
    private static final String FACE = "The public face";

    private final Sentences document;
    private final Document text;
    private final String source;

    private FaceTest(Sentences document, Document text, String source) {
        this.document = document;
        this.text = text;
        this.source = source;
    }

    public static void main(String[] args) throws IOException {
        Sentences document = new Sentences(args);
        String path = args.length > 0 ? args[0] : "src/main/java/RoundBounds.java";
        FaceTest test = new FaceTest(document, new Document(args), Files.readString(Path.of(path)));
        document.run(test::aPublicFinalClass);
        document.run(test::noneIsMinus1);
        document.run(test::eachMemberAndNoOther);
        document.run(test::membersAsTheyAreWritten);
        document.end();
    }

    private void aPublicFinalClass() {
        document.says("The public face", "public final class RoundBounds {");
        int kind = RoundBounds.class.getModifiers();
        document.due("public", Modifier.isPublic(kind), true);
        document.due("final", Modifier.isFinal(kind), true);
        document.due("a class above it", RoundBounds.class.getSuperclass().getName(),
                "java.lang.Object");
        document.due("interfaces", RoundBounds.class.getInterfaces().length, 0);
        document.due("package", RoundBounds.class.getPackageName(), "");
    }

    /** Read at run time, since the compiler copies a constant into those that use it. */
    private void noneIsMinus1() {
        document.says("The public face", "public static final int NONE = -1;");
        long none = 0;
        try {
            none = RoundBounds.class.getField("NONE").getInt(null);
        } catch (ReflectiveOperationException e) {
            document.due("NONE", e.toString(), "-1");
        }
        document.due("NONE", none, -1);
    }

    private void eachMemberAndNoOther() {
        document.says("The public face", "public RoundBounds(int stops); public void way(int a, "
                + "int b, long t) throws ArrayIndexOutOfBoundsException; public long tree(int "
                + "rounds); public int rounds(); public long assign(); public long cut(int i, "
                + "int what); public long postman(boolean directed); public int pair(int i, int "
                + "side); public long greatest(); public long linear(int side) throws "
                + "ArithmeticException; public boolean certificate(int p); }");
        Set<String> due = new TreeSet<>();
        for (String line : text.block(FACE)) {
            if (line.endsWith(";")) {
                // of an argument the type alone, of a constant no value
                due.add(line.replaceAll("(\\w+) \\w+(?=[,)])", "$1").replaceAll("( = .*)?;", ""));
            }
        }
        document.due("members", seenFromOutside().toString(), due.toString());
        document.due("how many members", due.size(), 12);
    }

    private static Set<String> seenFromOutside() {
        Set<String> seen = new TreeSet<>();
        for (Field f : RoundBounds.class.getDeclaredFields()) {
            if (!Modifier.isPrivate(f.getModifiers())) {
                seen.add(Modifier.toString(f.getModifiers()) + " "
                        + f.getType().getSimpleName() + " " + f.getName());
            }
        }
        for (Constructor<?> c : RoundBounds.class.getDeclaredConstructors()) {
            if (!Modifier.isPrivate(c.getModifiers())) {
                seen.add(written(c, "RoundBounds"));
            }
        }
        for (Method m : RoundBounds.class.getDeclaredMethods()) {
            if (!Modifier.isPrivate(m.getModifiers())) {
                seen.add(written(m, m.getReturnType().getSimpleName() + " " + m.getName()));
            }
        }
        for (Class<?> c : RoundBounds.class.getDeclaredClasses()) {
            if (Modifier.isPublic(c.getModifiers()) || Modifier.isProtected(c.getModifiers())) {
                seen.add(c.toString());
            }
        }
        return seen;
    }

    private static String written(Executable member, String name) {
        StringJoiner types = new StringJoiner(", ", "(", ")");
        for (Class<?> type : member.getParameterTypes()) {
            types.add(type.getSimpleName());
        }
        StringJoiner thrown = new StringJoiner(", ");
        for (Class<?> type : member.getExceptionTypes()) {
            thrown.add(type.getSimpleName());
        }
        return Modifier.toString(member.getModifiers()) + " " + name + types
                + (thrown.length() == 0 ? "" : " throws " + thrown);
    }

    /** The names of the arguments are seen in the source alone. */
    private void membersAsTheyAreWritten() {
        document.says("The public face", "public long tree(int rounds);");
        for (String line : text.block(FACE)) {
            if (line.endsWith(");")) {
                String head = "\n    " + line.replace(";", " {") + "\n";
                document.due(line + " is written so", source.contains(head), true);
            }
        }
        dueMemberOfEachPromise();
    }

    private void dueMemberOfEachPromise() {
        int promises = 0;
        for (String section : text.names()) {
            for (String member : text.code(section)) {
                if (section.startsWith("Promise ")) {
                    promises++;
                    document.due(section + ": " + member,
                            text.block(FACE).contains("public " + member + ";"), true);
                }
            }
        }
        document.due("promises with a member", promises, 11);
    }
}
