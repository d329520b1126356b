import java.lang.reflect.Constructor;
import java.lang.reflect.Field;
import java.lang.reflect.Method;
import java.lang.reflect.Modifier;
import java.nio.file.Files;
import java.nio.file.Path;
import java.util.Set;
import java.util.TreeSet;

/** The public face is the document's and nothing more; the source keeps to plain Java. */
public final class FaceTest {
    private static final Check CHECK = new Check();

    private FaceTest() {
    }

    public static void main(String[] args) throws Exception {
        face();
        nested();
        source(args.length > 0 ? args[0] : "src/main/java/RoundBounds.java");
        CHECK.end();
    }

    private static void face() {
        Set<String> due = new TreeSet<>(Set.of(
                "public static final int RoundBounds.NONE",
                "public RoundBounds(int)",
                "public void RoundBounds.way(int,int,long) "
                        + "throws java.lang.ArrayIndexOutOfBoundsException",
                "public long RoundBounds.tree(int)",
                "public int RoundBounds.rounds()",
                "public long RoundBounds.assign()",
                "public long RoundBounds.cut(int,int)",
                "public long RoundBounds.postman(boolean)",
                "public int RoundBounds.pair(int,int)",
                "public long RoundBounds.greatest()",
                "public long RoundBounds.linear(int) throws java.lang.ArithmeticException",
                "public boolean RoundBounds.certificate(int)"));
        Set<String> got = new TreeSet<>();
        for (Field f : RoundBounds.class.getDeclaredFields()) {
            if (!Modifier.isPrivate(f.getModifiers())) {
                got.add(f.toString());
            }
        }
        for (Constructor<?> c : RoundBounds.class.getDeclaredConstructors()) {
            if (!Modifier.isPrivate(c.getModifiers())) {
                got.add(c.toString());
            }
        }
        for (Method m : RoundBounds.class.getDeclaredMethods()) {
            if (!Modifier.isPrivate(m.getModifiers())) {
                got.add(m.toString());
            }
        }
        CHECK.due("face", got.toString(), due.toString());
        int kind = RoundBounds.class.getModifiers();
        CHECK.due("public and final", Modifier.isPublic(kind) && Modifier.isFinal(kind), true);
        CHECK.due("no class above it", RoundBounds.class.getSuperclass().getName(),
                "java.lang.Object");
        CHECK.due("no package", RoundBounds.class.getPackageName(), "");
    }

    private static void nested() {
        Set<String> face = new TreeSet<>();
        for (Method m : RoundBounds.class.getDeclaredMethods()) {
            if (Modifier.isPublic(m.getModifiers())) {
                face.add(m.getName());
            }
        }
        CHECK.due("at most twelve classes",
                RoundBounds.class.getDeclaredClasses().length < 12, true);
        for (Class<?> c : RoundBounds.class.getDeclaredClasses()) {
            CHECK.due(c + " is private and static", Modifier.isPrivate(c.getModifiers())
                    && Modifier.isStatic(c.getModifiers()), true);
            for (Method m : c.getDeclaredMethods()) {
                CHECK.due(m + " bears a name of the face", face.contains(m.getName()), false);
                CHECK.due(m + " has few parameters", m.getParameterCount() <= 7, true);
            }
        }
    }

    private static void source(String path) throws Exception {
        String text = Files.readString(Path.of(path));
        String[] never = {"->", "::", "catch", "finally", "synchronized", "assert ", "System.",
            "Random", "Thread", "Exact(", "package ", "static {", "java.io", "java.time"};
        for (String word : never) {
            CHECK.due("source holds " + word, text.contains(word), false);
        }
        for (String line : text.split("\n")) {
            if (line.startsWith("import ")) {
                CHECK.due("import", line, "import java.util.Arrays;");
            }
            CHECK.due("a line of at most 100: " + line, line.length() <= 100, true);
        }
    }
}
