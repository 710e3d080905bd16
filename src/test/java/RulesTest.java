import java.io.IOException;
import java.lang.management.ManagementFactory;
import java.lang.reflect.Constructor;
import java.lang.reflect.Field;
import java.lang.reflect.Method;
import java.lang.reflect.Modifier;
import java.nio.file.Files;
import java.nio.file.Path;
import java.util.Arrays;
import java.util.Set;
import java.util.TreeSet;
import java.util.regex.Matcher;
import java.util.regex.Pattern;

/** The face of the class, those rules of LANGUAGE.md that can be read off its text, and the room it takes. */
public final class RulesTest {
    private static final Check CHECK = new Check("RulesTest");

    private static final String[] FACE = {
        "boolean table(int, int)", "boolean set(int, int, int)", "boolean cards(int)", "boolean column(int)",
        "boolean row(int)", "int round()", "boolean view(int, int, int)", "int size(int)", "int bits(int, int)",
        "long times(int)", "int bound(int)", "int about(int)"};

    private static final String[] FORBIDDEN = {
        "import (?!java\\.util\\.(ArrayList|List|Arrays|Iterator);)", "package", "throw", "throws", "try", "catch",
        "finally", "synchronized", "assert", "volatile", "native", "static \\{", "->", "::", "Exact", "BigInteger",
        "Random", "System\\.(?!arraycopy)", "Thread", "hashCode", "String toString"};

    public static void main(String[] args) throws IOException {
        face();
        String code = withoutComments(Files.readString(Path.of("src/main/java/RegretTable.java")));
        for (String word : FORBIDDEN) {
            String whole = Character.isLetter(word.charAt(0)) && word.matches("\\w+") ? "\\b" + word + "\\b" : word;
            CHECK.due("forbidden: " + word, Pattern.compile(whole).matcher(code).find(), false);
        }
        methods(code);
        room();
        CHECK.end();
    }

    private static String withoutComments(String text) {
        return text.replaceAll("(?s)/\\*.*?\\*/", "").replaceAll("//[^\n]*", "");
    }

    private static void face() {
        Class<?> c = RegretTable.class;
        CHECK.due("NONE", RegretTable.NONE, -1);
        CHECK.due("public and final", c.getModifiers() == (Modifier.PUBLIC | Modifier.FINAL), true);
        Set<String> names = new TreeSet<>();
        Set<String> due = new TreeSet<>(Arrays.asList(FACE));
        for (Method m : c.getDeclaredMethods()) {
            if (Modifier.isPublic(m.getModifiers())) {
                names.add(m.getReturnType() + " " + m.getName() + Arrays.toString(m.getParameterTypes())
                        .replace('[', '(').replace(']', ')'));
            } else {
                CHECK.due("private: " + m, Modifier.isPrivate(m.getModifiers()), true);
            }
        }
        CHECK.due("methods " + names, names.equals(due), true);
        for (Field f : c.getDeclaredFields()) {
            boolean isNone = f.getName().equals("NONE");
            CHECK.due("private: " + f, Modifier.isPrivate(f.getModifiers()), !isNone);
        }
        Constructor<?>[] constructors = c.getDeclaredConstructors();
        CHECK.due("constructors", constructors.length, 1);
        CHECK.due("public constructor", Modifier.isPublic(constructors[0].getModifiers()), true);
        CHECK.due("without parameters", constructors[0].getParameterCount(), 0);
        CHECK.due("classes", c.getDeclaredClasses().length <= 11, true);
        for (Class<?> inside : c.getDeclaredClasses()) {
            inside(inside);
        }
    }

    private static void inside(Class<?> inside) {
        CHECK.due("static: " + inside, Modifier.isStatic(inside.getModifiers()), true);
        int fields = 0;
        for (Field f : inside.getDeclaredFields()) {
            if (Modifier.isStatic(f.getModifiers())) {
                CHECK.due("final: " + f, Modifier.isFinal(f.getModifiers()), true);
            } else {
                fields++;
            }
        }
        CHECK.due("fields of " + inside, fields <= 20, true);
        for (Method m : inside.getDeclaredMethods()) {
            boolean isOfFace = Arrays.stream(FACE).anyMatch(f -> f.contains(" " + m.getName() + "("));
            CHECK.due("no name of the face: " + m, isOfFace, false);
            CHECK.due("parameters: " + m, m.getParameterCount() <= 7, true);
        }
    }

    /** A method's first line is indented by 4 or 8, and its last one alike. */
    private static void methods(String code) {
        Matcher method = Pattern.compile("(?m)^( {4}| {8})[a-zA-Z][^=;\n]*\\)\\s*\\{\n(?s:.*?)^\\1\\}\n").matcher(code);
        int count = 0;
        while (method.find()) {
            count++;
            long lines = method.group().lines().count();
            CHECK.due("lines of " + method.group().lines().findFirst().orElse(""), lines <= 60, true);
        }
        CHECK.due("at least the methods of the face were found", count >= FACE.length, true);
    }

    /**
     * The dearest rounds and looks of 512 calls. An object takes 16 bytes at the least, so a megabyte is far
     * below the room that all calls of a run share.
     */
    private static void room() {
        com.sun.management.ThreadMXBean threads = (com.sun.management.ThreadMXBean) ManagementFactory.getThreadMXBean();
        playAndLook();
        long before = threads.getCurrentThreadAllocatedBytes();
        playAndLook();
        long taken = threads.getCurrentThreadAllocatedBytes() - before;
        CHECK.due("room taken by 512 calls: " + taken, taken < 1000000, true);
    }

    private static void playAndLook() {
        RegretTable t = new RegretTable();
        t.cards(5);
        for (int i = 0; i < 10; i++) {
            t.round();
        }
        for (int i = 0; i < 500; i++) {
            t.view(i % 6, 0, 0);
        }
    }
}
