import java.io.ByteArrayOutputStream;
import java.io.IOException;
import java.io.PrintStream;
import java.net.URL;
import java.net.URLClassLoader;
import java.nio.file.Files;
import java.nio.file.Path;
import java.util.ArrayList;
import java.util.List;
import java.util.regex.Matcher;
import java.util.regex.Pattern;
import java.util.stream.Stream;
import javax.tools.ToolProvider;

/** README.md is true: its example compiles and gives the answers told in it, and its table names every call. */
public final class ReadmeTest extends Check {
    private static final Pattern EXAMPLE = Pattern.compile("```java\n(.*?)```", Pattern.DOTALL);
    private static final Pattern TOLD = Pattern.compile("// (-?\\d+)");
    private static final List<String> CALLS = List.of("set(setting, value)", "note(track, first, last)", "drop(note)",
            "shift(note, shift)", "accent(note, has)", "insert(step, many)", "cut(step, many)", "copy(from, to, goal)",
            "read()", "of(note, what)", "at(step, what)", "sound(track, sound, what)", "count(what)",
            "bestShift(note, what)", "greatestRun()", "swallowed(track)", "freeGoal(from, to)", "put(characters)",
            "wipe()", "fault()", "undo()", "save(slot)", "restore(slot)");

    public static void main(String[] args) throws Exception {
        String page = Files.readString(Path.of(args[0]));
        Matcher example = EXAMPLE.matcher(page);
        String source = example.find() ? example.group(1) : "";
        List<String> answered = answersOf(source);
        test("the example gives the answers that are told in it", () -> due(toldIn(source), answered));
        test("the example calls what it shows", () -> due(23, answered.size()));
        test("the table names every call", () -> CALLS.forEach(call -> due(true, page.contains("`" + call + "`"))));
        test("how the tests are run", () -> due(true, page.contains("`.ci/run`")));
        end("ReadmeTest");
    }

    private static List<String> toldIn(String source) {
        List<String> told = new ArrayList<>();
        Matcher matcher = TOLD.matcher(source);
        while (matcher.find()) {
            told.add(matcher.group(1));
        }
        return told;
    }

    /** Compiles the example beside the class, runs it, and returns the lines that it prints. */
    private static List<String> answersOf(String source) throws Exception {
        Path place = Files.createTempDirectory("readme");
        try {
            Path file = Files.writeString(place.resolve("Example.java"), source);
            String classes = System.getProperty("java.class.path");
            int code = ToolProvider.getSystemJavaCompiler()
                    .run(null, null, null, "-cp", classes, "-d", place.toString(), file.toString());
            return code == 0 ? printedBy(place) : List.of("it does not compile");
        } finally {
            remove(place);
        }
    }

    private static List<String> printedBy(Path place) throws Exception {
        ByteArrayOutputStream printed = new ByteArrayOutputStream();
        PrintStream before = System.out;
        try (URLClassLoader loader = new URLClassLoader(new URL[] {place.toUri().toURL()})) {
            System.setOut(new PrintStream(printed, true));
            loader.loadClass("Example").getMethod("main", String[].class).invoke(null, (Object) new String[0]);
        } finally {
            System.setOut(before);
        }
        return printed.toString().lines().toList();
    }

    private static void remove(Path place) throws IOException {
        try (Stream<Path> files = Files.list(place)) {
            for (Path file : files.toList()) {
                Files.delete(file);
            }
        }
        Files.delete(place);
    }
}
