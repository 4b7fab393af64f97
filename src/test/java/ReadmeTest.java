import java.lang.reflect.Method;
import java.lang.reflect.Modifier;
import java.net.URL;
import java.net.URLClassLoader;
import java.nio.file.Files;
import java.nio.file.Path;
import java.util.ArrayList;
import java.util.List;
import java.util.regex.Matcher;
import java.util.regex.Pattern;
import java.util.stream.Stream;
import javax.tools.ToolProvider;

/** README.md shows an example that answers what stands beside it, and names each method of the face. */
public final class ReadmeTest extends Checks {
    private static final Path README = Path.of("README.md");
    private static final String EXAMPLE = "Example";
    private static final Pattern ANSWERED_LINE = Pattern.compile("(\\S.*); +// (-?\\d+): .*");

    public static void main(String[] args) throws Exception {
        about = "README.md";
        String text = Files.readString(README);
        namesAll(text);
        runExample(between(text, "```java\n", "```"));
        end("ReadmeTest");
    }

    private static void namesAll(String text) {
        for (Method method : HintTeam.class.getDeclaredMethods()) {
            if (Modifier.isPublic(method.getModifiers())) {
                String name = method.getName();
                due(name + " is named", text.contains("`" + name + "`"), true);
            }
        }
    }

    private static String between(String text, String first, String last) {
        int start = text.indexOf(first) + first.length();
        return text.substring(start, text.indexOf(last, start));
    }

    private static void runExample(String lines) throws Exception {
        List<Integer> wanted = new ArrayList<>();
        Path folder = Files.createTempDirectory("readme");
        try {
            Path source = folder.resolve(EXAMPLE + ".java");
            Files.writeString(source, program(lines, wanted));
            int failed = ToolProvider.getSystemJavaCompiler().run(null, null, null, "-proc:none",
                    "-cp", System.getProperty("java.class.path"), "-d", folder.toString(), source.toString());
            due("the compiler of the example", failed, 0);
            if (failed == 0) {
                due("the answers of the example", answers(folder), wanted);
            }
        } finally {
            delete(folder);
        }
        due("more than ten calls are shown with their answers", wanted.size() > 10, true);
    }

    /** The example as a program that keeps the answer of each line beside which one stands. */
    private static String program(String lines, List<Integer> wanted) {
        StringBuilder program = new StringBuilder("public final class " + EXAMPLE + " {\n"
                + "public static java.util.List<Integer> answers() {\n"
                + "java.util.List<Integer> all = new java.util.ArrayList<>();\n");
        for (String line : lines.split("\n")) {
            Matcher answered = ANSWERED_LINE.matcher(line);
            if (answered.matches()) {
                wanted.add(Integer.valueOf(answered.group(2)));
                program.append("all.add(").append(answered.group(1)).append(");\n");
            } else {
                program.append(line).append('\n');
            }
        }
        return program.append("return all;\n}\n}\n").toString();
    }

    private static Object answers(Path folder) throws Exception {
        try (URLClassLoader loader = new URLClassLoader(new URL[] {folder.toUri().toURL()})) {
            return loader.loadClass(EXAMPLE).getMethod("answers").invoke(null);
        }
    }

    private static void delete(Path folder) throws Exception {
        try (Stream<Path> files = Files.list(folder)) {
            for (Path file : files.toList()) {
                Files.delete(file);
            }
        }
        Files.delete(folder);
    }
}
