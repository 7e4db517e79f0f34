import java.net.URL;
import java.net.URLClassLoader;
import java.nio.file.Files;
import java.nio.file.Path;
import java.util.ArrayList;
import java.util.List;
import java.util.Set;
import java.util.TreeSet;
import java.util.regex.Matcher;
import java.util.regex.Pattern;
import java.util.stream.Stream;
import javax.tools.ToolProvider;

/** README.md as it stands: its example runs and answers what it says, and its table has the tests that there are. */
public final class ReadmeTest {
    private static final Pattern EXAMPLE = Pattern.compile("(?s)```java\n(.*?)```");
    private static final Pattern CALL = Pattern.compile("(x\\.\\w+\\([^;]*\\)); +// (?:link |cuff )?(-?\\d+)\\b.*");

    public static void main(String[] args) throws Exception {
        String readme = Files.readString(Path.of("README.md"));
        example(readme);
        table(readme);
        names(readme);
        Due.end();
    }

    private static void example(String readme) throws Exception {
        Matcher example = EXAMPLE.matcher(readme);
        Due.is("an example", example.find() ? 1 : 0, 1);
        StringBuilder body = new StringBuilder();
        List<Long> told = new ArrayList<>();
        for (String line : example.group(1).split("\n")) {
            Matcher call = CALL.matcher(line);
            if (call.matches()) told.add(Long.valueOf(call.group(2)));
            body.append(call.matches() ? "got.add((long) " + call.group(1) + ");" : line).append('\n');
        }
        Due.is("answers that the example tells", told.size(), 6);
        List<Long> got = answersOf("public final class Example {\npublic static void fill(java.util.List<Long> got) {\n"
            + body + "}\n}\n");
        Due.is("the example answers " + got + ", it tells " + told, got.equals(told) ? 1 : 0, 1);
    }

    private static List<Long> answersOf(String source) throws Exception {
        Path folder = Files.createTempDirectory("example");
        Path file = folder.resolve("Example.java");
        Files.writeString(file, source);
        List<Long> got = new ArrayList<>();
        int code = ToolProvider.getSystemJavaCompiler().run(null, null, null, "-nowarn", "-cp",
            System.getProperty("java.class.path"), "-d", folder.toString(), file.toString());
        Due.is("the example compiles", code, 0);
        if (code == 0) {
            try (URLClassLoader loader = new URLClassLoader(new URL[] {folder.toUri().toURL()})) {
                loader.loadClass("Example").getMethod("fill", List.class).invoke(null, got);
            }
        }
        for (String left : List.of("Example.java", "Example.class", "")) Files.deleteIfExists(folder.resolve(left));
        return got;
    }

    private static void table(String readme) throws Exception {
        Set<String> told = new TreeSet<>(), there = new TreeSet<>();
        Matcher row = Pattern.compile("(?m)^\\| (\\w+Test) \\|").matcher(readme);
        while (row.find()) told.add(row.group(1) + ".java");
        try (Stream<Path> files = Files.list(Path.of("src/test/java"))) {
            files.map(file -> file.getFileName().toString()).filter(name -> name.endsWith("Test.java")).forEach(there::add);
        }
        Due.is("the tests told " + told + ", there are " + there, told.equals(there) ? 1 : 0, 1);
    }

    /** Files that README.md names are there. */
    private static void names(String readme) {
        Matcher name = Pattern.compile("`([\\w./-]*/[\\w.-]+)`").matcher(readme);
        int many = 0;
        while (name.find()) {
            many++;
            Due.is(name.group(1) + " is there", Files.exists(Path.of(name.group(1))) ? 1 : 0, 1);
        }
        Due.is("some files are named", many > 0 ? 1 : 0, 1);
    }
}
