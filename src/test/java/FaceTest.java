import com.sun.management.ThreadMXBean;
import java.io.IOException;
import java.lang.management.ManagementFactory;
import java.lang.reflect.Constructor;
import java.lang.reflect.Field;
import java.lang.reflect.Method;
import java.lang.reflect.Modifier;
import java.nio.file.Files;
import java.nio.file.Path;
import java.util.Arrays;
import java.util.Set;
import java.util.TreeSet;
import java.util.regex.Matcher;
import java.util.regex.Pattern;

/** The public face, what LANGUAGE.md rules out, and how much memory the calls of one object take. */
final class FaceTest {
    private static final Check CHECK = new Check();
    private static final String IAE = " throws IllegalArgumentException";
    private static final String ISE = " throws IllegalStateException";
    private static final String CELL = " throws IndexOutOfBoundsException";
    private static final String CELL_IAE = CELL + ", IllegalArgumentException";
    private static final String CELL_IAE_ISE = CELL_IAE + ", IllegalStateException";
    private static final String[] CALLS = {
        "int lay(int, int)" + IAE,
        "int clue(int, int)" + CELL_IAE_ISE,
        "int make(int)" + IAE,
        "int fill(int, int)" + CELL_IAE_ISE,
        "int undo()" + ISE,
        "int run(int)" + IAE,
        "int filled()",
        "int area()",
        "int at(int)" + CELL,
        "boolean isClue(int)" + CELL,
        "int size(int)" + CELL,
        "int room(int)" + CELL,
        "boolean canBe(int, int)" + CELL_IAE,
        "boolean isHidden(int)" + CELL,
        "int shapes(int)" + CELL,
        "int shapesWith(int, int)" + CELL,
        "boolean isSolved()",
        "int solutions(int)" + IAE,
    };
    private static final String[] RULED_OUT = {
        "import", "package", "try", "catch", "finally", "assert", "synchronized", "instanceof", "lambda",
        "System", "Thread", "Random", "Object", "float", "double", "String", "protected", "static \\{",
        "->", "::", "\\w+Exact", "\" \\+", "\\+ \"",
    };

    public static void main(String[] args) throws IOException {
        publicFace();
        privateNames();
        ruledOut();
        memory();
        CHECK.end();
    }

    private static void publicFace() {
        CHECK.same("the class is public and final", FieldFiller.class.getModifiers(), Modifier.PUBLIC | Modifier.FINAL);
        Set<String> calls = new TreeSet<>();
        for (Method method : FieldFiller.class.getDeclaredMethods()) {
            if (!Modifier.isPrivate(method.getModifiers())) {
                CHECK.same(method.getName() + " is public alone", method.getModifiers(), Modifier.PUBLIC);
                calls.add(face(method));
            }
        }
        CHECK.same("calls", calls, new TreeSet<>(Arrays.asList(CALLS)));
        Constructor<?>[] constructors = FieldFiller.class.getDeclaredConstructors();
        CHECK.same("constructors", constructors.length, 1);
        CHECK.same("the constructor is public", constructors[0].getModifiers(), Modifier.PUBLIC);
        CHECK.same("the constructor has no parameter", constructors[0].getParameterCount(), 0);
        CHECK.same("NONE", FieldFiller.NONE, -1);
    }

    private static String face(Method method) {
        StringBuilder text = new StringBuilder();
        text.append(method.getReturnType()).append(' ').append(method.getName()).append('(');
        text.append(names(method.getParameterTypes())).append(')');
        if (method.getExceptionTypes().length > 0) {
            text.append(" throws ").append(names(method.getExceptionTypes()));
        }
        return text.toString();
    }

    private static String names(Class<?>[] types) {
        StringBuilder text = new StringBuilder();
        for (Class<?> type : types) {
            text.append(text.length() == 0 ? "" : ", ").append(type.getSimpleName());
        }
        return text.toString();
    }

    private static void privateNames() {
        Set<String> publicNames = new TreeSet<>();
        for (Method method : FieldFiller.class.getDeclaredMethods()) {
            if (Modifier.isPublic(method.getModifiers())) {
                publicNames.add(method.getName());
            }
        }
        privateNames(FieldFiller.class, publicNames);
        for (Class<?> inside : FieldFiller.class.getDeclaredClasses()) {
            CHECK.same(inside + " is private", Modifier.isPrivate(inside.getModifiers()), true);
            CHECK.same(inside + " is static", Modifier.isStatic(inside.getModifiers()), true);
            privateNames(inside, publicNames);
        }
    }

    private static void privateNames(Class<?> type, Set<String> publicNames) {
        for (Method method : type.getDeclaredMethods()) {
            boolean isPrivate = Modifier.isPrivate(method.getModifiers());
            CHECK.same(method + " bears the name of a call", isPrivate && publicNames.contains(method.getName()), false);
            CHECK.same(method + " has at most seven parameters", method.getParameterCount() <= 7, true);
        }
        for (Field field : type.getDeclaredFields()) {
            boolean isNone = field.getName().equals("NONE");
            CHECK.same(field + " is private", Modifier.isPrivate(field.getModifiers()), !isNone);
            if (Modifier.isStatic(field.getModifiers())) {
                CHECK.same(field + " is final", Modifier.isFinal(field.getModifiers()), true);
            }
        }
    }

    private static void ruledOut() throws IOException {
        String source = Files.readString(Path.of("src/main/java/FieldFiller.java"));
        String code = source.replaceAll("(?s)/\\*.*?\\*/", "").replaceAll("//.*", "").replaceAll("\"[^\"]*\"", "\"\"");
        for (String word : RULED_OUT) {
            String pattern = Character.isLetter(word.charAt(0)) ? "\\b" + word + "\\b" : word;
            Matcher matcher = Pattern.compile(pattern).matcher(code);
            CHECK.same("the class uses " + word, matcher.find(), false);
        }
        Matcher made = Pattern.compile("new (\\w+)").matcher(code);
        Set<String> allowed = Set.of("Board", "Shapes", "Solver", "Draws", "int",
                "IndexOutOfBoundsException", "IllegalArgumentException", "IllegalStateException");
        while (made.find()) {
            CHECK.same("the class makes " + made.group(1), allowed.contains(made.group(1)), true);
        }
    }

    /**
     * New objects, and 40 rounds of the dearest calls on each (an object is used for at most 512
     * calls): what they take must stay far below the room that all calls of a run live in.
     */
    private static void memory() {
        ThreadMXBean threads = (ThreadMXBean) ManagementFactory.getThreadMXBean();
        FieldFiller[] objects = new FieldFiller[13];
        // Once before it counts: what the machine itself makes at the first call is not the class's.
        FieldFiller first = new FieldFiller();
        first.lay(3, 4);
        callAll(first, 1);
        long start = threads.getCurrentThreadAllocatedBytes();
        for (int i = 0; i < objects.length; i++) {
            objects[i] = new FieldFiller();
        }
        long made = threads.getCurrentThreadAllocatedBytes();
        for (int i = 0; i < objects.length; i++) {
            objects[i].lay(3, 4);
            for (int round = 0; round < 40; round++) {
                callAll(objects[i], 40 * i + round);
            }
        }
        long called = threads.getCurrentThreadAllocatedBytes();
        CHECK.same("13 objects take " + (made - start) + " bytes, which is little", made - start < 13 * 1000, true);
        CHECK.same("520 rounds take " + (called - made) + " bytes, which is little", called - made < 520 * 200, true);
    }

    private static void callAll(FieldFiller x, int i) {
        x.make(i);
        x.clue(i % 12, 0);
        x.solutions(5);
        x.run(0);
        x.run(1);
        x.run(2);
        x.shapes(i % 12);
        x.shapesWith(i % 12, 11);
        x.isHidden(i % 12);
        x.canBe(i % 12, 3);
        x.isSolved();
    }
}
