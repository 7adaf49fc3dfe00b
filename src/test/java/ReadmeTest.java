import java.io.IOException;
import java.net.URL;
import java.net.URLClassLoader;
import java.nio.file.Files;
import java.nio.file.Path;
import java.util.ArrayList;
import java.util.Arrays;
import java.util.Comparator;
import java.util.List;
import java.util.Set;
import java.util.TreeSet;
import java.util.regex.Matcher;
import java.util.regex.Pattern;
import java.util.stream.Collectors;
import java.util.stream.Stream;
import javax.tools.ToolProvider;

/** README.md's example answers what is said beside each call, shows the whole face, and its table names every test. */
public final class ReadmeTest {
    private static final String FIRST = "GridFileIndex index = new GridFileIndex();";
    private static final Pattern CALL = Pattern.compile("(index\\.(\\w+)\\(.*\\)); +// (-?\\d+): .+");

    private ReadmeTest() {
    }

    public static void main(String[] args) throws Exception {
        List<String> readme = Files.readAllLines(Path.of("README.md"));
        example(block(readme));
        testsAreNamed(readme);
        Due.finish();
    }

    private static List<String> block(List<String> readme) {
        int first = readme.indexOf("```java");
        Due.yes("README.md has one example", first >= 0 && first == readme.lastIndexOf("```java"));
        List<String> rest = readme.subList(first + 1, readme.size());
        return rest.subList(0, rest.indexOf("```"));
    }

    private static void example(List<String> lines) throws Exception {
        Due.yes("the example begins with " + FIRST, lines.get(0).equals(FIRST));
        List<String> calls = new ArrayList<>();
        List<Integer> said = new ArrayList<>();
        Set<String> shown = new TreeSet<>();
        for (String line : lines.subList(1, lines.size())) {
            Matcher call = CALL.matcher(line);
            Due.yes("a call with what it answers: " + line, call.matches());
            calls.add(call.group(1));
            shown.add(call.group(2));
            said.add(Integer.parseInt(call.group(3)));
        }
        int[] answers = answers(calls);
        for (int i = 0; i < calls.size(); i++) {
            Due.same("README.md's " + calls.get(i), answers[i], said.get(i));
        }
        Set<String> face = Arrays.stream(GridFileIndex.class.getMethods())
            .filter(m -> m.getDeclaringClass() == GridFileIndex.class)
            .map(m -> m.getName())
            .collect(Collectors.toCollection(TreeSet::new));
        Due.yes("the example shows every method: " + shown, shown.equals(face));
    }

    /** The example is compiled as it stands, so that it is Java that a reader can use. */
    private static int[] answers(List<String> calls) throws Exception {
        Path folder = Files.createTempDirectory("readme");
        try {
            Path source = folder.resolve("ReadmeExample.java");
            Files.writeString(source, "public final class ReadmeExample { public static int[] answers() { " + FIRST
                + " return new int[] {" + String.join(", ", calls) + "}; } }");
            int failed = ToolProvider.getSystemJavaCompiler().run(null, null, null,
                "-cp", System.getProperty("java.class.path"), "-d", folder.toString(), source.toString());
            Due.same("compiling the example", failed, 0);
            try (URLClassLoader loader = new URLClassLoader(new URL[] {folder.toUri().toURL()})) {
                return (int[]) loader.loadClass("ReadmeExample").getMethod("answers").invoke(null);
            }
        } finally {
            delete(folder);
        }
    }

    private static void delete(Path folder) throws IOException {
        try (Stream<Path> paths = Files.walk(folder)) {
            for (Path path : paths.sorted(Comparator.reverseOrder()).toList()) {
                Files.delete(path);
            }
        }
    }

    private static void testsAreNamed(List<String> readme) throws IOException {
        try (Stream<Path> files = Files.list(Path.of("src/test/java"))) {
            for (Path file : files.filter(f -> f.toString().endsWith("Test.java")).toList()) {
                String name = file.getFileName().toString().replace(".java", "");
                Due.yes("README.md names " + name, readme.stream().anyMatch(line -> line.startsWith("| " + name + " |")));
            }
        }
    }
}
