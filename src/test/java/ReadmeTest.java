import java.io.IOException;
import java.net.URL;
import java.net.URLClassLoader;
import java.nio.file.Files;
import java.nio.file.Path;
import java.util.ArrayList;
import java.util.List;
import java.util.Set;
import java.util.TreeSet;
import java.util.regex.Matcher;
import java.util.regex.Pattern;
import javax.tools.ToolProvider;

/** The examples of README.md, compiled as they stand there, and each call that it gives an answer for. */
public final class ReadmeTest {
    private static final Pattern EXAMPLE = Pattern.compile("(?s)```java\n(.*?)```");
    /** A call on a line of its own, then its answer, then maybe what that means. */
    private static final Pattern ANSWERED = Pattern.compile("(\\w+\\.(\\w+)\\(.*\\)); +// (-?[0-9]+)(?![0-9]).*");

    public static void main(String[] args) throws Exception {
        String page = Files.readString(Path.of("README.md"));
        List<String> calls = new ArrayList<>();
        List<Integer> due = new ArrayList<>();
        Set<String> names = new TreeSet<>();
        StringBuilder program = new StringBuilder("public final class Readme {\n");
        Matcher example = EXAMPLE.matcher(page);
        int examples = 0;
        while (example.find()) {
            program.append("static void example").append(examples++).append("(java.util.List<Integer> got) {\n");
            for (String line : example.group(1).split("\n")) {
                Matcher m = ANSWERED.matcher(line.strip());
                if (m.matches()) {
                    calls.add(m.group(1));
                    names.add(m.group(2));
                    due.add(Integer.parseInt(m.group(3)));
                }
                Check.same("a comment stands only behind a call: " + line, line.contains("//") && !m.matches() ? 1 : 0, 0);
                program.append(m.matches() ? "got.add(" + m.group(1) + ");" : line).append('\n');
            }
            program.append("}\n");
        }
        program.append("public static void all(java.util.List<Integer> got) {\n");
        for (int k = 0; k < examples; k++) {
            program.append("example").append(k).append("(got);\n");
        }
        List<Integer> got = answers(program.append("}\n}\n").toString());
        Check.same("examples", examples, 2);
        Check.same("answers", got.size(), due.size());
        for (int k = 0; k < due.size(); k++) {
            Check.same("README.md: " + calls.get(k), got.get(k), due.get(k));
        }
        Check.same("enough of them are shown", names.size() >= 24 ? 1 : 0, 1);
        Check.end();
    }

    private static List<Integer> answers(String program) throws Exception {
        Path folder = Files.createTempDirectory("readme");
        List<Integer> got = new ArrayList<>();
        try {
            Path source = Files.writeString(folder.resolve("Readme.java"), program);
            int code = ToolProvider.getSystemJavaCompiler().run(null, null, null, "-cp",
                    System.getProperty("java.class.path"), "-d", folder.toString(), source.toString());
            Check.same("README.md's examples compile", code, 0);
            try (URLClassLoader loader = new URLClassLoader(new URL[] {folder.toUri().toURL()})) {
                loader.loadClass("Readme").getMethod("all", List.class).invoke(null, got);
            }
        } finally {
            remove(folder);
        }
        return got;
    }

    private static void remove(Path folder) throws IOException {
        try (var files = Files.list(folder)) {
            for (Path file : files.toList()) {
                Files.delete(file);
            }
        }
        Files.delete(folder);
    }
}
