import java.io.IOException;
import java.lang.reflect.Constructor;
import java.lang.reflect.Field;
import java.lang.reflect.Method;
import java.lang.reflect.Modifier;
import java.nio.file.Files;
import java.nio.file.Path;
import java.util.ArrayList;
import java.util.List;
import java.util.TreeSet;

/** The public face, and those rules of LANGUAGE.md that the compiled class or its text can tell. */
final class FaceTest {
    private static final String SOURCE = "src/main/java/Threadneedle.java";
    private static final String BOUNDS = "IndexOutOfBoundsException";
    private static final String ARGUMENT = "IllegalArgumentException";
    private static final String STATE = "IllegalStateException";
    private static final String[] METHODS = {
        "int shape(int,int,int,int,int,int) " + BOUNDS + " " + ARGUMENT + " " + STATE,
        "int wipe()",
        "int design() " + STATE,
        "int machine(int,int,int) " + ARGUMENT + " " + STATE,
        "int stock(int,int,int) " + BOUNDS + " " + ARGUMENT + " " + STATE,
        "int order(int,int) " + BOUNDS + " " + ARGUMENT + " " + STATE,
        "void start(int,int) " + BOUNDS + " " + STATE,
        "int run(int,int) " + BOUNDS + " " + ARGUMENT + " " + STATE,
        "int snap(int) " + BOUNDS + " " + STATE,
        "int match(int,int,int) " + BOUNDS + " " + STATE,
        "int cancel(int) " + BOUNDS + " " + STATE,
        "int stitches(int,int) " + BOUNDS,
        "int stitch(int,int,int) " + BOUNDS + " " + ARGUMENT,
        "int sequence(int,int) " + BOUNDS,
        "int changes(int) " + BOUNDS,
        "int changesAnew(int) " + BOUNDS,
        "int jumps(int,boolean) " + BOUNDS,
        "int ofOrder(int,int) " + BOUNDS + " " + ARGUMENT,
        "int shadeOf(int,int) " + BOUNDS,
        "int ofMachine(int,int) " + BOUNDS + " " + ARGUMENT,
        "int left(int,int) " + BOUNDS,
    };
    private static final String[] CONSTANTS = {"NONE", "BLOCK", "STAIR", "WAITS", "SEWN", "DONE", "CANCELLED"};
    private static final String[] FORBIDDEN = {"import ", "package ", "->", "::", "synchronized", "assert ", "finally",
        "catch", "try {", "System.", "Exact(", "random", "hashCode", "equals(", "toString", "interface ", "record "};
    private static final Checks CHECKS = new Checks("FaceTest");

    public static void main(String[] args) throws IOException {
        publicMethods();
        otherMembers();
        innerClasses();
        text(Files.readAllLines(Path.of(SOURCE)));
        CHECKS.end();
    }

    private static String tell(Method method) {
        List<String> parameters = new ArrayList<>();
        for (Class<?> type : method.getParameterTypes()) {
            parameters.add(type.getSimpleName());
        }
        StringBuilder told = new StringBuilder(method.getReturnType().getSimpleName());
        told.append(' ').append(method.getName()).append('(').append(String.join(",", parameters)).append(')');
        for (Class<?> thrown : method.getExceptionTypes()) {
            told.append(' ').append(thrown.getSimpleName());
        }
        return told.toString();
    }

    private static void publicMethods() {
        TreeSet<String> due = new TreeSet<>(List.of(METHODS));
        TreeSet<String> got = new TreeSet<>();
        TreeSet<String> names = new TreeSet<>();
        for (Method method : Threadneedle.class.getDeclaredMethods()) {
            if (Modifier.isPublic(method.getModifiers())) {
                got.add(tell(method));
                names.add(method.getName());
                CHECKS.due("static " + method.getName(), Modifier.isStatic(method.getModifiers()) ? 1 : 0, 0);
            }
        }
        CHECKS.due("public methods", got, due);
        for (Class<?> type : ownClasses()) {
            for (Method method : type.getDeclaredMethods()) {
                if (!method.isSynthetic() && !Modifier.isPublic(method.getModifiers())) {
                    CHECKS.due("a name of the face for " + method, names.contains(method.getName()) ? 1 : 0, 0);
                }
                CHECKS.due("parameters of " + method, method.getParameterCount() <= 7 ? 1 : 0, 1);
            }
        }
    }

    private static List<Class<?>> ownClasses() {
        List<Class<?>> classes = new ArrayList<>(List.of(Threadneedle.class.getDeclaredClasses()));
        classes.add(Threadneedle.class);
        return classes;
    }

    private static void otherMembers() {
        CHECKS.due("public and final", Threadneedle.class.getModifiers(), Modifier.PUBLIC | Modifier.FINAL);
        CHECKS.due("constructors", Threadneedle.class.getDeclaredConstructors().length, 1);
        for (Constructor<?> constructor : Threadneedle.class.getDeclaredConstructors()) {
            CHECKS.due("constructor", constructor.getModifiers(), Modifier.PUBLIC);
            CHECKS.due("its parameters", constructor.getParameterCount(), 0);
        }
        for (Method method : Threadneedle.class.getDeclaredMethods()) {
            boolean isHidden = Modifier.isPrivate(method.getModifiers()) || method.isSynthetic();
            CHECKS.due("visible " + method, isHidden || Modifier.isPublic(method.getModifiers()) ? 1 : 0, 1);
        }
        TreeSet<String> constants = new TreeSet<>();
        for (Field field : Threadneedle.class.getDeclaredFields()) {
            if (!Modifier.isPrivate(field.getModifiers())) {
                constants.add(field.getName());
                CHECKS.due("constant " + field.getName(), field.getModifiers(),
                        Modifier.PUBLIC | Modifier.STATIC | Modifier.FINAL);
                CHECKS.due("type of " + field.getName(), field.getType(), int.class);
            }
        }
        CHECKS.due("constants", constants, new TreeSet<>(List.of(CONSTANTS)));
    }

    private static void innerClasses() {
        CHECKS.due("some twelve classes at most", ownClasses().size() <= 12 ? 1 : 0, 1);
        for (Class<?> type : ownClasses()) {
            int fields = 0;
            for (Field field : type.getDeclaredFields()) {
                boolean isStatic = Modifier.isStatic(field.getModifiers());
                fields += isStatic ? 0 : 1;
                CHECKS.due("static and not final " + field,
                        isStatic && !Modifier.isFinal(field.getModifiers()) ? 1 : 0, 0);
            }
            CHECKS.due("fields of " + type, fields <= 20 ? 1 : 0, 1);
            boolean isInside = type != Threadneedle.class;
            CHECKS.due("static " + type, !isInside || Modifier.isStatic(type.getModifiers()) ? 1 : 0, 1);
            CHECKS.due("hidden " + type, isInside && Modifier.isPublic(type.getModifiers()) ? 1 : 0, 0);
        }
    }

    private static void text(List<String> lines) {
        int methodBegin = 0;
        for (int k = 0; k < lines.size(); k++) {
            String line = lines.get(k);
            for (String word : FORBIDDEN) {
                CHECKS.due("line " + (k + 1) + " has " + word, line.contains(word) ? 1 : 0, 0);
            }
            CHECKS.due("length of line " + (k + 1), line.length() <= 120 ? 1 : 0, 1);
            if (line.isBlank()) {
                CHECKS.due("length of what ends at " + (k + 1), k - methodBegin <= 60 ? 1 : 0, 1);
                methodBegin = k;
            }
            if (line.contains("throw new ")) {
                boolean isPlain = line.strip().matches(
                        "(default: )?throw new (" + BOUNDS + "|" + ARGUMENT + "|" + STATE + ")\\(\"[^\"]*\"\\);");
                CHECKS.due("throw in line " + (k + 1), isPlain ? 1 : 0, 1);
            }
        }
    }
}
