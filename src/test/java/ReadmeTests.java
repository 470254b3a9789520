import java.io.IOException;
import java.net.URL;
import java.net.URLClassLoader;
import java.nio.file.Files;
import java.nio.file.Path;
import java.util.regex.Matcher;
import java.util.regex.Pattern;
import javax.tools.JavaCompiler;
import javax.tools.ToolProvider;

// The README's Java is compiled and run, so that what it tells a reader stays true.
// It is run in the project's folder, as .ci/run does.
public final class ReadmeTests {
    private static final Path FOLDER = Path.of("build/readme");
    private static final Pattern BLOCK = Pattern.compile("```java\n(.*?)```", Pattern.DOTALL);
    private static final Pattern CALL = Pattern.compile("x\\.(\\w+)(\\(.*\\)); +// (-?\\d+): .+");
    private static final Check check = new Check("ReadmeTests");

    public static void main(String[] args) throws IOException, ReflectiveOperationException {
        String source = exampleOf(Files.readString(Path.of("README.md")));
        check.part("README.md");
        if (compiles(source)) {
            for (String told : answers()) {
                String[] parts = told.split("\n");
                check.due(parts[0], Long.parseLong(parts[1]), Long.parseLong(parts[2]));
            }
        }
        check.finish();
    }

    // Blocks of methods stand beside the others, which follow one another in one method.
    private static String exampleOf(String readme) {
        StringBuilder methods = new StringBuilder();
        StringBuilder lines = new StringBuilder();
        Matcher block = BLOCK.matcher(readme);
        while (block.find()) {
            String code = block.group(1);
            if (code.startsWith("static ")) {
                methods.append(code);
            } else {
                code.lines().forEach(line -> lines.append(asked(line)).append('\n'));
            }
        }
        return "public final class ReadmeExample {\n" + methods
            + "public static java.util.List<String> answers() {\n"
            + "java.util.List<String> told = new java.util.ArrayList<>();\n" + lines + "return told;\n}\n}\n";
    }

    private static String asked(String line) {
        Matcher call = CALL.matcher(line);
        if (!call.matches()) {
            check.holds("an answer stands behind: " + line, !line.startsWith("x."));
            return line;
        }
        String name = call.group(1) + call.group(2);
        return "told.add(\"" + name + "\\n\" + x." + name + " + \"\\n" + call.group(3) + "\");";
    }

    private static boolean compiles(String source) throws IOException {
        Files.createDirectories(FOLDER);
        Path file = Files.writeString(FOLDER.resolve("ReadmeExample.java"), source);
        JavaCompiler compiler = ToolProvider.getSystemJavaCompiler();
        String path = System.getProperty("java.class.path");
        int code = compiler.run(null, null, null, "-cp", path, "-d", FOLDER.toString(), file.toString());
        check.due("javac of the README's Java", code, 0);
        return code == 0;
    }

    private static Iterable<String> answers() throws IOException, ReflectiveOperationException {
        URL[] urls = {FOLDER.toUri().toURL()};
        try (URLClassLoader loader = new URLClassLoader(urls)) {
            Object told = loader.loadClass("ReadmeExample").getMethod("answers").invoke(null);
            return ((java.util.List<?>) told).stream().map(Object::toString).toList();
        }
    }
}
