import java.io.ByteArrayOutputStream;
import java.io.IOException;
import java.io.PrintStream;
import java.net.URL;
import java.net.URLClassLoader;
import java.nio.charset.StandardCharsets;
import java.nio.file.Files;
import java.nio.file.Path;
import java.nio.file.Paths;
import java.util.ArrayList;
import java.util.Arrays;
import java.util.List;
import java.util.Set;
import java.util.TreeSet;
import java.util.regex.Matcher;
import java.util.regex.Pattern;
import javax.tools.ToolProvider;

/** README.md: its example compiles and tells what stands there, and each call of the document's face has its row. */
public final class ReadmeTest {
    public static void main(String[] args) throws IOException, ReflectiveOperationException {
        String text = Files.readString(Paths.get("README.md"));
        example(text);
        String document = Files.readString(Paths.get("../shared/DOC.md"));
        Set<String> calls = face(document);
        Due.due("face: calls of the document", calls.size(), 43);
        Set<String> changing = rows(between(text, "### Calls that change something", "### Questions"));
        Set<String> asking = rows(between(text, "### Questions", "## Tests"));
        Set<String> all = new TreeSet<>(changing);
        all.addAll(asking);
        Due.holds("calls told by README.md " + all, all.equals(calls));
        Due.due("no call is told twice", changing.size() + asking.size(), all.size());
        Due.holds("calls that can be REFUSED " + changing, names(changing).equals(refusable(document)));
        Due.holds("how tests are run", text.contains("bash .ci/run"));
        Due.finish();
    }

    private static String between(String text, String from, String to) {
        int start = text.indexOf(from) + from.length();
        return text.substring(start, text.indexOf(to, start));
    }

    private static void example(String text) throws IOException, ReflectiveOperationException {
        Path folder = Files.createTempDirectory("readme");
        Path source = folder.resolve("Example.java");
        Files.writeString(source, between(text, "```java\n", "```"));
        int failed = ToolProvider.getSystemJavaCompiler().run(null, null, null,
                "-cp", System.getProperty("java.class.path"), "-d", folder.toString(), source.toString());
        Due.due("the example compiles", failed, 0);
        String told = failed == 0 ? run(folder) : "";
        List<String> got = Arrays.asList(told.split("\n"));
        List<String> want = Arrays.asList(between(text, "```text\n", "```").split("\n"));
        Due.due("how much the example tells", got.size(), want.size());
        for (int i = 0; i < Math.min(got.size(), want.size()); i++) {
            Due.holds("the example tells '" + got.get(i) + "', README.md '" + want.get(i) + "'", got.get(i).equals(want.get(i)));
        }
        try (var files = Files.list(folder)) {
            for (Path file : new ArrayList<>(files.toList())) {
                Files.delete(file);
            }
        }
        Files.delete(folder);
    }

    private static String run(Path folder) throws IOException, ReflectiveOperationException {
        PrintStream screen = System.out;
        ByteArrayOutputStream told = new ByteArrayOutputStream();
        try (URLClassLoader loader = new URLClassLoader(new URL[] {folder.toUri().toURL()}, ReadmeTest.class.getClassLoader())) {
            System.setOut(new PrintStream(told, true, StandardCharsets.UTF_8));
            loader.loadClass("Example").getMethod("main", String[].class).invoke(null, (Object) new String[0]);
        } finally {
            System.setOut(screen);
        }
        return told.toString(StandardCharsets.UTF_8).replace("\r\n", "\n");
    }

    /** The calls of the face with the names of their numbers: "end(n)". */
    private static Set<String> face(String document) {
        Set<String> calls = new TreeSet<>();
        Matcher rows = Pattern.compile("public int (\\w+)\\(([^)]*)\\);").matcher(document);
        while (rows.find()) {
            calls.add(rows.group(1) + "(" + rows.group(2).replace("int ", "") + ")");
        }
        return calls;
    }

    /** The calls by which rows of tables begin. */
    private static Set<String> rows(String part) {
        Set<String> calls = new TreeSet<>();
        Matcher rows = Pattern.compile("(?m)^\\| `(\\w+\\([^)]*\\))` \\|").matcher(part);
        while (rows.find()) {
            calls.add(rows.group(1));
        }
        return calls;
    }

    private static Set<String> names(Set<String> calls) {
        Set<String> names = new TreeSet<>();
        for (String call : calls) {
            names.add(call.substring(0, call.indexOf('(')));
        }
        return names;
    }

    /** Those that status() lists, and the two of the TAPE. */
    private static Set<String> refusable(String document) {
        String list = between(document, "What the latest call of ", " was REFUSED");
        Set<String> names = new TreeSet<>(Arrays.asList(list.split(", ")));
        names.addAll(Arrays.asList("feed", "end"));
        return names;
    }
}
