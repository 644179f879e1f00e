import java.io.IOException;
import java.lang.reflect.Constructor;
import java.lang.reflect.Field;
import java.lang.reflect.Method;
import java.lang.reflect.Modifier;
import java.nio.file.Files;
import java.nio.file.Path;
import java.util.ArrayList;
import java.util.List;
import java.util.Set;
import java.util.TreeSet;

/** The public face, and those rules of LANGUAGE.md that can be seen from the class and its text. */
public final class FaceTest {
    private static final Path PROGRAM = Path.of("src/main/java/Stavehouse.java");
    private static final String INDEX = " IndexOutOfBoundsException";
    private static final String ARGUMENT = " IllegalArgumentException";
    private static final String STATE = " IllegalStateException";
    private static final String[] FACE = {
        "bar 1" + ARGUMENT + STATE, "note 4" + INDEX + ARGUMENT + STATE, "mend 4" + INDEX + ARGUMENT,
        "empty 2" + INDEX, "setPaper 2" + ARGUMENT, "copy 1" + INDEX + STATE, "lend 2" + INDEX + STATE,
        "giveBack 1" + INDEX + STATE, "paste 1" + INDEX + STATE, "mark 3" + INDEX + ARGUMENT + STATE,
        "bow 4" + INDEX + ARGUMENT + STATE, "play 0" + STATE, "bars 0", "notes 2" + INDEX,
        "noteAt 3" + INDEX, "version 2" + INDEX, "time 1" + INDEX, "timeByBars 1" + INDEX,
        "items 1" + INDEX, "itemOf 2" + INDEX, "cue 2" + INDEX, "width 2" + INDEX, "lines 1" + INDEX,
        "lineOf 2" + INDEX, "cost 1" + INDEX, "costByAll 1" + INDEX, "turns 1" + INDEX,
        "place 3" + INDEX, "copies 0", "deskOf 1" + INDEX, "has 2" + INDEX, "owed 1" + INDEX,
        "markOf 3" + INDEX, "oldMarks 1" + INDEX, "clashes 1" + INDEX, "concerts 0"
    };
    private static final String[] NOT_IN_THE_LANGUAGE = {
        "finally", "::", "synchronized", "assert ", "package ", "Exact(", ".getMessage", "native ",
        "System.out", "System.err", "System.get", "System.nano", "System.current", "Thread", "Random",
        "NullPointer", "ArrayIndex", "ClassCast", "NegativeArray", "ArrayStore", "Throwable", "StackOverflow"
    };
    private static final List<String> LIBRARY = List.of("java.util.Arrays", "java.util.ArrayList",
            "java.util.List", "java.util.Iterator", "java.util.NoSuchElementException");

    /** "Some" twelve, twenty and sixty, the language says. */
    private static final int MOST_CLASSES = 13;
    private static final int MOST_FIELDS = 22;
    private static final int MOST_LINES = 66;

    private static final Check CHECK = new Check();

    private static String faceOf(Method method) {
        StringBuilder face = new StringBuilder(method.getName()).append(' ').append(method.getParameterCount());
        for (Class<?> type : method.getExceptionTypes()) {
            face.append(' ').append(type.getSimpleName());
        }
        for (Class<?> type : method.getParameterTypes()) {
            CHECK.same("a parameter of " + method.getName(), type.getName(), "int");
        }
        CHECK.same("what " + method.getName() + " returns", method.getReturnType().getName(), "int");
        CHECK.due(method.getName() + " is public alone", method.getModifiers(), Modifier.PUBLIC);
        return face.toString();
    }

    private static void methods() {
        Set<String> found = new TreeSet<>();
        for (Method method : Stavehouse.class.getDeclaredMethods()) {
            if (!Modifier.isPrivate(method.getModifiers())) {
                found.add(faceOf(method));
            }
        }
        CHECK.same("the methods", found.toString(), new TreeSet<>(List.of(FACE)).toString());
        CHECK.due("the class is public and final", Stavehouse.class.getModifiers(), Modifier.PUBLIC | Modifier.FINAL);
        Constructor<?>[] constructors = Stavehouse.class.getDeclaredConstructors();
        CHECK.due("constructors", constructors.length, 1);
        CHECK.due("it is public", constructors[0].getModifiers(), Modifier.PUBLIC);
        CHECK.due("it takes nothing", constructors[0].getParameterCount(), 0);
        CHECK.due("it names no exception", constructors[0].getExceptionTypes().length, 0);
    }

    private static void fields() {
        Set<String> found = new TreeSet<>();
        for (Field field : Stavehouse.class.getDeclaredFields()) {
            if (!Modifier.isPrivate(field.getModifiers())) {
                found.add(Modifier.toString(field.getModifiers()) + " " + field.getType() + " " + field.getName());
            }
        }
        CHECK.same("the constants", found.toString(), "[public static final int NONE, public static final int SCORE]");
        CHECK.due("NONE", Stavehouse.NONE, -1);
        CHECK.due("SCORE", Stavehouse.SCORE, 5);
    }

    private static void insideClasses() {
        Set<String> names = new TreeSet<>();
        for (Method method : Stavehouse.class.getMethods()) {
            names.add(method.getName());
        }
        List<Class<?>> all = new ArrayList<>(List.of(Stavehouse.class.getDeclaredClasses()));
        for (Class<?> inside : all) {
            CHECK.due(inside + " is not public", inside.getModifiers() & (Modifier.PUBLIC | Modifier.PROTECTED), 0);
        }
        all.add(Stavehouse.class);
        holds("at most twelve classes", all.size() <= MOST_CLASSES);
        for (Class<?> of : all) {
            int fields = 0;
            for (Field field : of.getDeclaredFields()) {
                boolean still = Modifier.isStatic(field.getModifiers());
                fields += still ? 0 : 1;
                holds("a static field is final: " + field, !still || Modifier.isFinal(field.getModifiers()));
            }
            holds("at most twenty fields in " + of, fields <= MOST_FIELDS);
            for (Method method : of.getDeclaredMethods()) {
                boolean hidden = Modifier.isPrivate(method.getModifiers());
                holds(method + " has a name of its own", !hidden || !names.contains(method.getName()));
                holds(method + " takes at most seven", method.getParameterCount() <= 7);
            }
        }
    }

    private static void holds(String rule, boolean is) {
        CHECK.same(rule, is ? "yes" : "no", "yes");
    }

    private static void text() throws IOException {
        List<String> lines = Files.readAllLines(PROGRAM);
        for (int i = 0; i < lines.size(); i++) {
            String line = lines.get(i);
            String at = "line " + (i + 1);
            for (String word : NOT_IN_THE_LANGUAGE) {
                holds(at + " is without " + word, !line.contains(word));
            }
            holds(at + " is no lambda", !line.contains("->") || line.contains("case ") || line.contains("default"));
            if (line.startsWith("import ")) {
                holds(at + ", " + line, LIBRARY.contains(line.substring(7, line.length() - 1)));
            }
            holds(at + " has plain texts", !line.contains("\"") || line.chars().allMatch(sign -> sign < 128));
            holds("a method is short at " + at, !beginsMethod(line) || lengthFrom(lines, i) <= MOST_LINES);
        }
    }

    private static boolean beginsMethod(String line) {
        int indent = line.length() - line.stripLeading().length();
        return (indent == 4 || indent == 8) && line.endsWith(") {") && !line.contains(";")
                && !line.strip().matches("(if|for|while|switch) .*");
    }

    private static int lengthFrom(List<String> lines, int first) {
        String end = lines.get(first).substring(0, lines.get(first).length() - lines.get(first).stripLeading().length()) + "}";
        int length = 1;
        while (first + length < lines.size() && !lines.get(first + length).equals(end)) {
            length++;
        }
        return length + 1;
    }

    public static void main(String[] args) throws IOException {
        methods();
        fields();
        insideClasses();
        text();
        CHECK.end("FaceTest");
    }
}
