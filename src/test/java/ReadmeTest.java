import java.io.IOException;
import java.lang.reflect.Field;
import java.lang.reflect.Method;
import java.lang.reflect.Modifier;
import java.net.URISyntaxException;
import java.nio.file.Files;
import java.nio.file.Path;
import java.util.ArrayList;
import java.util.List;
import java.util.Set;
import java.util.TreeSet;
import java.util.regex.Matcher;
import java.util.regex.Pattern;
import java.util.stream.Stream;
import javax.tools.ToolProvider;

/**
 * What README.md shows of the use of the class answers as README.md says: its Java is compiled as it stands there, one
 * block behind the other, and each call with a comment has to answer what the comment begins with.
 */
public final class ReadmeTest {
    private static final Path README = Path.of("README.md");
    private static final Path TESTS = Path.of("src/test/java");
    private static final Pattern SHOWN = Pattern.compile("x\\.(\\w+)\\((.*)\\); *// (-?\\d+|[A-Z]+)(?=:|$).*");
    private static final Due due = new Due();
    private static final Set<String> shown = new TreeSet<>();

    public static void main(String[] args) throws IOException, ReflectiveOperationException, URISyntaxException {
        String text = Files.readString(README);
        List<String> body = new ArrayList<>();
        for (String line : javaLines(text)) {
            body.add(asked(line));
        }
        run(body);
        everyCallIsShown();
        everyConstantIsTold(text);
        everyTestIsNamed(text);
        due.end();
    }

    private static List<String> javaLines(String text) {
        List<String> lines = new ArrayList<>();
        Matcher block = Pattern.compile("(?ms)^```java\\n(.*?)^```$").matcher(text);
        while (block.find()) {
            block.group(1).lines().forEach(lines::add);
        }
        return lines;
    }

    /** A call with an answer becomes a question; a call without one may stand inside a loop alone, there indented. */
    private static String asked(String line) {
        Matcher m = SHOWN.matcher(line);
        if (!m.matches()) {
            due.isTrue("README.md tells an answer behind: " + line, !line.startsWith("x."));
            return line;
        }
        shown.add(m.group(1));
        String call = "x." + m.group(1) + "(" + m.group(2) + ")";
        String answer = Character.isLetter(m.group(3).charAt(0)) ? "WallPatience." + m.group(3) : m.group(3) + "L";
        return "due.is(\"README.md: " + call.replace("\"", "\\\"") + "\", " + call + ", " + answer + ");";
    }

    /** The class is put beside this one, as only there it may use what has no public name. */
    private static void run(List<String> body) throws IOException, ReflectiveOperationException, URISyntaxException {
        Path place = Path.of(ReadmeTest.class.getProtectionDomain().getCodeSource().getLocation().toURI());
        Path source = place.resolve("ReadmeShown.java");
        Files.writeString(source, "final class ReadmeShown {\n static void show(Due due) {\n"
            + String.join("\n", body) + "\n }\n}\n");
        int failed = ToolProvider.getSystemJavaCompiler().run(null, null, null,
            "-cp", place.toString(), "-d", place.toString(), source.toString());
        due.is("what README.md shows is compiled", failed, 0);
        if (failed == 0) {
            Method show = Class.forName("ReadmeShown").getDeclaredMethod("show", Due.class);
            show.invoke(null, due);
        }
    }

    private static void everyCallIsShown() {
        for (Method m : WallPatience.class.getDeclaredMethods()) {
            if (Modifier.isPublic(m.getModifiers())) {
                due.isTrue("README.md shows " + m.getName(), shown.contains(m.getName()));
            }
        }
    }

    private static void everyConstantIsTold(String text) throws IllegalAccessException {
        for (Field f : WallPatience.class.getFields()) {
            String row = "| `" + f.getName() + "` " + f.getInt(null) + " |";
            due.isTrue("README.md tells " + row, text.contains(row));
        }
    }

    private static void everyTestIsNamed(String text) throws IOException {
        Set<String> named = new TreeSet<>();
        Matcher m = Pattern.compile("`(\\w+Test)`").matcher(text);
        while (m.find()) {
            named.add(m.group(1));
        }
        Set<String> there = new TreeSet<>();
        try (Stream<Path> files = Files.list(TESTS)) {
            files.forEach(f -> there.add(f.getFileName().toString().replace(".java", "")));
        }
        due.isTrue("README.md names " + named + " but there is " + there, named.equals(there));
    }
}
