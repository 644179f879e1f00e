import java.io.IOException;
import java.lang.reflect.Constructor;
import java.lang.reflect.Field;
import java.lang.reflect.Method;
import java.lang.reflect.Modifier;
import java.nio.file.Files;
import java.nio.file.Path;
import java.util.ArrayList;
import java.util.List;
import java.util.Set;
import java.util.TreeSet;

/** The public face, and those rules of LANGUAGE.md that can be seen from the class and its text. */
public final class FaceTest {
    private static final Path PROGRAM = Path.of("src/main/java/Stavehouse.java");
    private static final String INDEX = " IndexOutOfBoundsException";
    private static final String ARGUMENT = " IllegalArgumentException";
    private static final String STATE = " IllegalStateException";
    private static final String[] FACE = {
        "bar 1" + ARGUMENT + STATE, "note 4" + INDEX + ARGUMENT + STATE, "mend 4" + INDEX + ARGUMENT,
        "empty 2" + INDEX, "setPaper 2" + ARGUMENT, "copy 1" + INDEX + STATE, "lend 2" + INDEX + STATE,
        "giveBack 1" + INDEX + STATE, "paste 1" + INDEX + STATE, "mark 3" + INDEX + ARGUMENT + STATE,
        "bow 4" + INDEX + ARGUMENT + STATE, "play 0" + STATE, "bars 0", "notes 2" + INDEX,
        "noteAt 3" + INDEX, "version 2" + INDEX, "time 1" + INDEX, "timeByBars 1" + INDEX,
        "items 1" + INDEX, "itemOf 2" + INDEX, "cue 2" + INDEX, "width 2" + INDEX, "lines 1" + INDEX,
        "lineOf 2" + INDEX, "cost 1" + INDEX, "costByAll 1" + INDEX, "turns 1" + INDEX,
        "place 3" + INDEX, "copies 0", "deskOf 1" + INDEX, "has 2" + INDEX, "owed 1" + INDEX,
        "markOf 3" + INDEX, "oldMarks 1" + INDEX, "clashes 1" + INDEX, "concerts 0"
    };
    private static final String[] NOT_IN_THE_LANGUAGE = {
        "catch", "try {", "finally", "->", "::", "synchronized", "assert ", "package ", "System.",
        "float", "double", "Exact", ".getMessage", "hashCode", "equals(", "while (true)", "for (;;)"
    };

    private static final Check CHECK = new Check();

    private static String faceOf(Method method) {
        StringBuilder face = new StringBuilder(method.getName()).append(' ').append(method.getParameterCount());
        for (Class<?> type : method.getExceptionTypes()) {
            face.append(' ').append(type.getSimpleName());
        }
        for (Class<?> type : method.getParameterTypes()) {
            CHECK.same("a parameter of " + method.getName(), type.getName(), "int");
        }
        CHECK.same("what " + method.getName() + " returns", method.getReturnType().getName(), "int");
        CHECK.due(method.getName() + " is public alone", method.getModifiers(), Modifier.PUBLIC);
        return face.toString();
    }

    private static void methods() {
        Set<String> found = new TreeSet<>();
        for (Method method : Stavehouse.class.getDeclaredMethods()) {
            if (!Modifier.isPrivate(method.getModifiers())) {
                found.add(faceOf(method));
            }
        }
        CHECK.same("the methods", found.toString(), new TreeSet<>(List.of(FACE)).toString());
        CHECK.due("the class is public and final", Stavehouse.class.getModifiers(), Modifier.PUBLIC | Modifier.FINAL);
        Constructor<?>[] constructors = Stavehouse.class.getDeclaredConstructors();
        CHECK.due("constructors", constructors.length, 1);
        CHECK.due("it is public", constructors[0].getModifiers(), Modifier.PUBLIC);
        CHECK.due("it takes nothing", constructors[0].getParameterCount(), 0);
        CHECK.due("it names no exception", constructors[0].getExceptionTypes().length, 0);
    }

    private static void fields() {
        Set<String> found = new TreeSet<>();
        for (Field field : Stavehouse.class.getDeclaredFields()) {
            if (!Modifier.isPrivate(field.getModifiers())) {
                found.add(Modifier.toString(field.getModifiers()) + " " + field.getType() + " " + field.getName());
            }
        }
        CHECK.same("the constants", found.toString(), "[public static final int NONE, public static final int SCORE]");
        CHECK.due("NONE", Stavehouse.NONE, -1);
        CHECK.due("SCORE", Stavehouse.SCORE, 5);
    }

    private static void insideClasses() {
        Set<String> names = new TreeSet<>();
        for (Method method : Stavehouse.class.getMethods()) {
            names.add(method.getName());
        }
        List<Class<?>> all = new ArrayList<>(List.of(Stavehouse.class.getDeclaredClasses()));
        CHECK.same("at most twelve classes", all.size() < 12 ? "yes" : "no", "yes");
        for (Class<?> inside : all) {
            CHECK.due(inside + " is private, static and final", inside.getModifiers(),
                    Modifier.PRIVATE | Modifier.STATIC | Modifier.FINAL);
        }
        all.add(Stavehouse.class);
        for (Class<?> of : all) {
            int fields = 0;
            for (Field field : of.getDeclaredFields()) {
                boolean still = Modifier.isStatic(field.getModifiers());
                fields += still ? 0 : 1;
                CHECK.same("a static field is final: " + field, still && !Modifier.isFinal(field.getModifiers()) ? "no" : "yes", "yes");
            }
            CHECK.same("at most twenty fields in " + of, fields <= 20 ? "yes" : "no", "yes");
            for (Method method : of.getDeclaredMethods()) {
                boolean face = of == Stavehouse.class && Modifier.isPublic(method.getModifiers());
                CHECK.same(method + " has a name of its own", !face && names.contains(method.getName()) ? "no" : "yes", "yes");
                CHECK.same(method + " takes at most seven", method.getParameterCount() <= 7 ? "yes" : "no", "yes");
            }
        }
    }

    private static void text() throws IOException {
        List<String> lines = Files.readAllLines(PROGRAM);
        int methodLength = 0;
        for (int i = 0; i < lines.size(); i++) {
            String line = lines.get(i);
            for (String word : NOT_IN_THE_LANGUAGE) {
                CHECK.same("line " + (i + 1) + " has " + word, Boolean.toString(line.contains(word)), "false");
            }
            if (line.startsWith("import ")) {
                CHECK.same("line " + (i + 1), line, "import java.util.Arrays;");
            }
            for (char sign : line.toCharArray()) {
                CHECK.same("a sign in line " + (i + 1), sign > 0 && sign < 128 ? "plain" : "not plain", "plain");
            }
            methodLength = line.isBlank() ? 0 : methodLength + 1;
            CHECK.same("a method is short at line " + (i + 1), methodLength <= 60 ? "yes" : "no", "yes");
        }
    }

    public static void main(String[] args) throws IOException {
        methods();
        fields();
        insideClasses();
        text();
        CHECK.end("FaceTest");
    }
}
