import java.io.IOException;
import java.lang.reflect.Constructor;
import java.lang.reflect.Field;
import java.lang.reflect.Method;
import java.lang.reflect.Modifier;
import java.nio.file.Files;
import java.nio.file.Path;
import java.util.Set;
import java.util.TreeSet;
import java.util.regex.Matcher;
import java.util.regex.Pattern;

/** The public face, and those rules of LANGUAGE.md that members and text alone can show. */
public final class FaceTest {
    private static final Checks CHECKS = new Checks();

    private static final Set<String> FACE = Set.of(
        "int open(int, int)", "int send(int, int, int)", "int mark(int, int)", "int close(int, int)",
        "int receive(int, int)", "int word(int)", "int weight(int, int, int)", "int pump(int)", "int drain(int, int)",
        "int deliver(int)", "boolean lose(int)", "boolean corrupt(int, int, int)", "int timeout(int)",
        "int wire(int, int, int)", "int stream(int, int, int)", "int side(int, int)");

    private static final String[] RULED_OUT = {
        "\\bthrow\\b", "\\bthrows\\b", "\\btry\\b", "\\bcatch\\b", "\\bsynchronized\\b", "\\bassert\\b", "->", "::",
        "\\bimport\\b", "\\bpackage\\b", "\\bstatic\\s*\\{", "\\w*Exact\\b", "\\bSystem\\.(?!arraycopy)", "\\bThread\\b",
        "\\bObject\\b", "\\bhashCode\\b", "\\btoString\\b", "\\bprotected\\b", "\\bdouble\\b", "\\bfloat\\b"};

    public static void main(String[] args) throws IOException {
        constants();
        members();
        nestedClasses();
        text(Files.readString(Path.of("src/main/java/StreamWires.java")));
        CHECKS.end();
    }

    private static void constants() {
        CHECKS.due("BAD", StreamWires.BAD, -1);
        CHECKS.due("NONE", StreamWires.NONE, -2);
    }

    private static void members() {
        Set<String> seen = new TreeSet<>();
        Set<String> names = new TreeSet<>();
        for (Method method : StreamWires.class.getDeclaredMethods()) {
            if (Modifier.isPublic(method.getModifiers())) {
                seen.add(told(method));
                names.add(method.getName());
            }
        }
        CHECKS.due("public methods " + seen, seen.equals(FACE), true);
        for (Method method : StreamWires.class.getDeclaredMethods()) {
            boolean isPublic = Modifier.isPublic(method.getModifiers());
            CHECKS.due(told(method) + " is public or private", isPublic || Modifier.isPrivate(method.getModifiers()), true);
            CHECKS.due(told(method) + " hides none", !isPublic && names.contains(method.getName()), false);
        }
        for (Field field : StreamWires.class.getDeclaredFields()) {
            boolean ofFace = Set.of("BAD", "NONE").contains(field.getName());
            CHECKS.due(field.getName() + " is public", Modifier.isPublic(field.getModifiers()), ofFace);
            CHECKS.due(field.getName() + " is private", Modifier.isPrivate(field.getModifiers()), !ofFace);
        }
        Constructor<?>[] constructors = StreamWires.class.getDeclaredConstructors();
        CHECKS.due("constructors", constructors.length, 1);
        CHECKS.due("it is public", Modifier.isPublic(constructors[0].getModifiers()), true);
        CHECKS.due("it takes five", constructors[0].getParameterCount(), 5);
        CHECKS.due("final", Modifier.isFinal(StreamWires.class.getModifiers()), true);
    }

    private static String told(Method method) {
        StringBuilder text = new StringBuilder(method.getReturnType() + " " + method.getName() + "(");
        for (Class<?> type : method.getParameterTypes()) {
            text.append(text.charAt(text.length() - 1) == '(' ? "" : ", ").append(type.getSimpleName());
        }
        return text.append(")").toString();
    }

    private static void nestedClasses() {
        Class<?>[] nested = StreamWires.class.getDeclaredClasses();
        CHECKS.due("at most twelve classes", nested.length < 12, true);
        for (Class<?> type : nested) {
            CHECKS.due(type + " is static", Modifier.isStatic(type.getModifiers()), true);
            CHECKS.due(type + " is not public", Modifier.isPublic(type.getModifiers()), false);
            CHECKS.due(type + " has few fields", type.getDeclaredFields().length <= 20, true);
            for (Field field : type.getDeclaredFields()) {
                boolean changing = Modifier.isStatic(field.getModifiers()) && !Modifier.isFinal(field.getModifiers());
                CHECKS.due(type + "." + field.getName() + " is no static state", changing, false);
            }
            for (Method method : type.getDeclaredMethods()) {
                boolean ofFace = FACE.stream().anyMatch(face -> face.contains(" " + method.getName() + "("));
                CHECKS.due(told(method) + " has a name of the face", ofFace, false);
                CHECKS.due(told(method) + " takes at most seven", method.getParameterCount() <= 7, true);
            }
        }
    }

    private static void text(String source) {
        String code = source.replaceAll("(?s)/\\*.*?\\*/", "").replaceAll("//[^\n]*", "");
        for (String rule : RULED_OUT) {
            Matcher matcher = Pattern.compile(rule).matcher(code);
            CHECKS.due("text has " + rule, matcher.find(), false);
        }
    }
}
