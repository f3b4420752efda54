import java.io.ByteArrayOutputStream;
import java.io.IOException;
import java.io.PrintStream;
import java.lang.reflect.Method;
import java.net.URL;
import java.net.URLClassLoader;
import java.nio.file.Files;
import java.nio.file.Path;
import java.util.ArrayList;
import java.util.List;
import java.util.Set;
import java.util.TreeSet;
import java.util.regex.Matcher;
import java.util.regex.Pattern;
import java.util.stream.Stream;
import javax.tools.ToolProvider;

/** README.md: its example prints what it says, and its lists of calls and tests are those that there are. */
public final class ReadmeTest {
    private static final String CALL = "`(\\w+)";

    public static void main(String[] args) throws IOException, ReflectiveOperationException {
        String page = Files.readString(Path.of("README.md"));
        example(found(page, "(?s)```java\n(.*?)```"));
        if (Doc.isThere()) {
            same("calls that tell a ROW", names(found(page, "(?s)These do:(.*?)\\."), CALL), Doc.callsThatSay("the ROW: "));
            same("calls with other answers", names(tableOf(page, "call"), CALL), Doc.callsThatSay("-\\d"));
        }
        same("calls that throw", names(found(page, "(?s)### Calls that throw(.*?)###"), "(?m)^- " + CALL), throwing());
        same("tests", names(tableOf(page, "test"), "(\\w+Test)\\b"), tests());
        Check.done();
    }

    private static String found(String page, String form) {
        Matcher matcher = Pattern.compile(form).matcher(page);
        if (!matcher.find()) {
            Check.fail("README.md has nothing of the form " + form);
            return "";
        }
        return matcher.group(1);
    }

    /** The first row of cells of the table with such a head. */
    private static String tableOf(String page, String head) {
        String rows = found(page, "(?m)^\\| " + head + " \\|.*\n\\| --- .*\n((\\|.*\n)+)");
        return rows.replaceAll("(?m)^\\| (.*?) \\|.*$", "$1");
    }

    private static Set<String> names(String text, String form) {
        Set<String> names = new TreeSet<>();
        Matcher matcher = Pattern.compile(form).matcher(text);
        while (matcher.find()) {
            names.add(matcher.group(1));
        }
        return names;
    }

    private static void same(String what, Object told, Object there) {
        if (!told.equals(there)) {
            Check.fail(what + ": README.md tells " + told + ", there are " + there);
        }
    }

    private static Set<String> throwing() {
        Set<String> names = new TreeSet<>();
        for (Method method : FairByEar.class.getDeclaredMethods()) {
            if (method.getExceptionTypes().length > 0) {
                names.add(method.getName());
            }
        }
        return names;
    }

    private static Set<String> tests() throws IOException {
        Set<String> names = new TreeSet<>();
        try (Stream<Path> files = Files.list(Path.of("src/test/java"))) {
            files.forEach(file -> names.addAll(names(file.getFileName().toString(), "^(\\w+Test)\\.java$")));
        }
        return names;
    }

    /** The comment behind each println says what it prints. */
    private static void example(String code) throws IOException, ReflectiveOperationException {
        List<String> due = new ArrayList<>();
        Matcher told = Pattern.compile("(?m)System\\.out\\.println\\(.*\\); *// (.*)$").matcher(code);
        while (told.find()) {
            due.add(told.group(1));
        }
        same("what the example prints", due, printed(code));
    }

    private static List<String> printed(String code) throws IOException, ReflectiveOperationException {
        Path out = Files.createTempDirectory("readme");
        Path file = out.resolve("Example.java");
        Files.writeString(file, code);
        String classes = System.getProperty("java.class.path");
        ByteArrayOutputStream said = new ByteArrayOutputStream();
        PrintStream kept = System.out;
        int wrong = ToolProvider.getSystemJavaCompiler()
            .run(null, null, null, "-cp", classes, "-d", out.toString(), file.toString());
        Check.due("the example compiles", wrong, 0);
        try (URLClassLoader loader = new URLClassLoader(new URL[] {out.toUri().toURL()})) {
            System.setOut(new PrintStream(said, true));
            loader.loadClass("Example").getMethod("main", String[].class).invoke(null, (Object) new String[0]);
        } finally {
            System.setOut(kept);
            try (Stream<Path> files = Files.list(out)) {
                files.forEach(one -> one.toFile().delete());
            }
            out.toFile().delete();
        }
        return said.toString().lines().toList();
    }
}
