import java.io.IOException;
import java.lang.reflect.Constructor;
import java.lang.reflect.Field;
import java.lang.reflect.Method;
import java.lang.reflect.Modifier;
import java.nio.file.Files;
import java.nio.file.Path;
import java.util.Arrays;
import java.util.List;
import java.util.TreeSet;
import java.util.regex.Matcher;
import java.util.regex.Pattern;

/** The public face, just as the document has it, and those rules of the language that can be seen from the text. */
public final class FaceTest {
    private static final List<String> CONSTANTS = List.of("NO_SUCH=-1", "BAD_VALUE=-2", "BAD_TEXT=-3", "TOO_MANY=-4",
            "NOT_POSSIBLE=-5", "NONE=-6", "RUN=0", "BRIDGE=1", "HEAR=2", "WEAK=3");
    private static final List<String> METHODS = List.of("set(int,int)", "note(int,int,int)", "drop(int)",
            "shift(int,int)", "accent(int,boolean)", "insert(int,int)", "cut(int,int)", "copy(int,int,int)", "read()",
            "of(int,int)", "at(int,int)", "sound(int,int,int)", "count(int)", "bestShift(int,int)", "greatestRun()",
            "swallowed(int)", "freeGoal(int,int)", "put(long)", "wipe()", "fault()", "undo()", "save(int)",
            "restore(int)");
    private static final List<String> BANNED = List.of("\\b(throw|throws|try|catch|synchronized|assert)\\b", "->", "::",
            "\\b(Object|Map|HashMap|Random|Thread|System\\.(?!arraycopy))\\b", "\\w+Exact\\b", "\\bvar\\b",
            "\\b(equals|hashCode|toString)\\s*\\(", "\\bstatic\\s*\\{", "import (?!java\\.util\\.Arrays;)");

    private static final List<String> CONSTANT_TYPES = List.of("int", "long", "boolean", "char", "String", "int[]",
            "long[]", "char[]", "byte[]");
    private static final List<String> FIELD_TYPES = List.of("int", "long", "short", "byte", "char", "boolean", "String",
            "int[]", "long[]", "short[]", "byte[]", "char[]", "boolean[]");

    private static int wrong = 0;

    public static void main(String[] args) throws Exception {
        constants();
        methods();
        nestedClasses();
        fields(MusicHoles.class);
        for (Class<?> nested : MusicHoles.class.getDeclaredClasses()) {
            fields(nested);
        }
        methodLengths(Path.of(args[0]));
        sourceText(Path.of(args[0]));
        System.out.println(wrong == 0 ? "FaceTest: all as due" : "FaceTest: " + wrong + " not as due");
        if (wrong != 0) {
            System.exit(1);
        }
    }

    private static void due(Object want, Object got, String what) {
        if (!want.equals(got)) {
            wrong++;
            System.out.println(what + ": " + got + ", due is " + want);
        }
    }

    private static void constants() throws IllegalAccessException {
        TreeSet<String> seen = new TreeSet<>();
        for (Field field : MusicHoles.class.getDeclaredFields()) {
            if (!Modifier.isPrivate(field.getModifiers())) {
                due(true, Modifier.isPublic(field.getModifiers()) && Modifier.isStatic(field.getModifiers())
                        && Modifier.isFinal(field.getModifiers()) && field.getType() == int.class, field.getName());
                seen.add(field.getName() + "=" + field.getInt(null));
            }
        }
        due(new TreeSet<>(CONSTANTS), seen, "constants");
    }

    private static void methods() {
        TreeSet<String> seen = new TreeSet<>();
        TreeSet<String> hidden = new TreeSet<>();
        for (Method method : MusicHoles.class.getDeclaredMethods()) {
            if (Modifier.isPrivate(method.getModifiers())) {
                hidden.add(method.getName());
                continue;
            }
            due(true, Modifier.isPublic(method.getModifiers()) && !Modifier.isStatic(method.getModifiers())
                    && method.getReturnType() == int.class, method.getName());
            String parameters = Arrays.toString(method.getParameterTypes()).replace(" ", "");
            seen.add(method.getName() + "(" + parameters.substring(1, parameters.length() - 1) + ")");
        }
        due(new TreeSet<>(METHODS), seen, "methods");
        for (String method : METHODS) {
            due(false, hidden.contains(method.substring(0, method.indexOf('('))), "a private " + method);
        }
        due(true, Modifier.isPublic(MusicHoles.class.getModifiers()), "public class");
        due(true, Modifier.isFinal(MusicHoles.class.getModifiers()), "final class");
        Constructor<?>[] constructors = MusicHoles.class.getDeclaredConstructors();
        due(1, constructors.length, "constructors");
        due(true, Modifier.isPublic(constructors[0].getModifiers()), "public constructor");
        due(0, constructors[0].getParameterCount(), "parameters of the constructor");
    }

    private static void nestedClasses() {
        for (Class<?> nested : MusicHoles.class.getDeclaredClasses()) {
            due(true, Modifier.isStatic(nested.getModifiers()), "static " + nested);
            due(false, Modifier.isPublic(nested.getModifiers()), "public " + nested);
            due(true, nested.getDeclaredFields().length <= 26, "fields of " + nested);
            for (Method method : nested.getDeclaredMethods()) {
                due(false, METHODS.stream().anyMatch(it -> it.startsWith(method.getName() + "(")), "a nested " + method);
                due(true, method.getParameterCount() <= 7, "parameters of " + method);
            }
        }
        due(true, MusicHoles.class.getDeclaredClasses().length <= 11, "number of classes");
    }

    /** Static state is constant (rule 5), and each field is of a type that rule 3 has. */
    private static void fields(Class<?> owner) {
        for (Field field : owner.getDeclaredFields()) {
            boolean isStatic = Modifier.isStatic(field.getModifiers());
            Class<?> type = field.getType();
            due(true, !isStatic || Modifier.isFinal(field.getModifiers()), "final static " + field);
            due(true, (isStatic ? CONSTANT_TYPES : FIELD_TYPES).contains(type.getSimpleName())
                    || !isStatic && isOwn(type.isArray() ? type.getComponentType() : type), "type of " + field);
        }
    }

    private static boolean isOwn(Class<?> type) {
        return type.getName().startsWith("MusicHoles");
    }

    /** Methods are known by their indentation: one level for the class, two for those inside it. */
    private static void methodLengths(Path source) throws IOException {
        String text = Files.readString(source);
        Matcher matcher = Pattern.compile("\n( {4}| {8})\\w[^\n;=]*\\)[^\n;=]*\\{\n(.*?)\n\\1\\}", Pattern.DOTALL)
                .matcher(text);
        int methods = 0;
        while (matcher.find()) {
            methods++;
            due(true, matcher.group(2).lines().count() <= 60, "length of" + matcher.group().split("\n")[1]);
        }
        due(true, methods > METHODS.size(), "methods found in the source");
    }

    private static void sourceText(Path source) throws IOException {
        String text = Files.readString(source);
        text = Pattern.compile("/\\*.*?\\*/", Pattern.DOTALL).matcher(text).replaceAll("");
        text = text.replaceAll("//[^\n]*", "");
        for (String banned : BANNED) {
            Matcher matcher = Pattern.compile(banned).matcher(text);
            due(false, matcher.find(), "in the source: " + banned);
        }
        due(true, text.chars().allMatch(sign -> sign < 128), "ASCII alone");
    }
}
