import java.io.IOException;
import java.lang.reflect.InvocationTargetException;
import java.net.MalformedURLException;
import java.net.URL;
import java.net.URLClassLoader;
import java.nio.file.Files;
import java.nio.file.Path;
import java.util.ArrayList;
import java.util.List;
import java.util.regex.Matcher;
import java.util.regex.Pattern;
import javax.tools.ToolProvider;

/** The lines that README.md shows compile, and answer as it says behind them; it writes a class of them and runs it. */
public final class ReadmeTest {
    private static final String NAME = "ReadmeLines";
    private static final Pattern LINE =
            Pattern.compile("(?:\\w+ (?<name>\\w+) = )?(?<call>.+?); +// (?<what>answers|throws) (?<due>[^ :]+)(:.*)?");

    public static void main(String[] args) throws Exception {
        Check.part("README.md");
        List<String> lines = linesOf("java");
        Check.due("it shows much", true, lines.size() >= 30);
        Check.due("it shows how the tests are run", true,
                String.join("\n", linesOf("sh")).contains("javac") && text().contains(".ci/run"));
        Path folder = Files.createTempDirectory("readme");
        try {
            Path source = folder.resolve(NAME + ".java");
            Files.write(source, classOf(lines));
            int failed = ToolProvider.getSystemJavaCompiler().run(null, null, null, "-Xlint:all", "-Werror", "-cp",
                    System.getProperty("java.class.path"), "-d", folder.toString(), source.toString());
            Check.due("the compiler's exit code", 0, failed);
            if (failed == 0) {
                runIn(folder);
            }
        } finally {
            remove(folder);
        }
        Check.end("ReadmeTest");
    }

    private static String text() throws IOException {
        return Files.readString(Path.of("README.md"));
    }

    /** What stands in the blocks of a kind, line by line. */
    private static List<String> linesOf(String kind) throws IOException {
        List<String> found = new ArrayList<>();
        boolean isInside = false;
        for (String line : text().split("\n")) {
            if (line.startsWith("```")) {
                isInside = line.equals("```" + kind);
            } else if (isInside && !line.isBlank()) {
                found.add(line);
            }
        }
        return found;
    }

    private static List<String> classOf(List<String> lines) {
        List<String> source = new ArrayList<>();
        source.add("public final class " + NAME + " {");
        source.add("    public static void main(String[] args) {");
        for (String line : lines) {
            Matcher found = LINE.matcher(line);
            if (found.matches()) {
                source.addAll(found.group("what").equals("throws") ? refusalOf(found) : answerOf(found));
            } else {
                Check.due("no answer is due behind '" + line + "'", false, line.contains("//"));
                source.add(line);
            }
        }
        source.add("    }");
        source.add("}");
        return source;
    }

    private static List<String> answerOf(Matcher line) {
        String name = line.group("name");
        String call = line.group("call");
        String start = name == null ? "" : line.group().substring(0, line.end("call")) + "; ";
        String asked = name == null ? call : name;
        return List.of(start + "Check.due(\"" + quoted(call) + "\", \"" + line.group("due") + "\", String.valueOf("
                + asked + "));");
    }

    private static List<String> refusalOf(Matcher line) {
        String call = line.group("call");
        return List.of("{ String got = \"nothing\"; try { " + call + "; } catch (RuntimeException e) {",
                "got = e.getClass().getSimpleName(); }",
                "Check.due(\"" + quoted(call) + " throws\", \"" + line.group("due") + "\", got); }");
    }

    private static String quoted(String text) {
        return text.replace("\\", "\\\\").replace("\"", "\\\"");
    }

    private static void runIn(Path folder) throws IOException, ReflectiveOperationException {
        try (URLClassLoader loader = new URLClassLoader(new URL[] {urlOf(folder)})) {
            loader.loadClass(NAME).getMethod("main", String[].class).invoke(null, (Object) new String[0]);
        } catch (InvocationTargetException e) {
            Check.due("the lines go on to the end", "no exception", String.valueOf(e.getCause()));
        }
    }

    private static URL urlOf(Path folder) throws MalformedURLException {
        return folder.toUri().toURL();
    }

    private static void remove(Path folder) throws IOException {
        try (var files = Files.list(folder)) {
            for (Path file : files.toList()) {
                Files.delete(file);
            }
        }
        Files.delete(folder);
    }
}
