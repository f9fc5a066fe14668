import java.io.IOException;
import java.lang.reflect.Field;
import java.lang.reflect.Method;
import java.lang.reflect.Modifier;
import java.net.URL;
import java.net.URLClassLoader;
import java.nio.file.Files;
import java.nio.file.Path;
import java.util.ArrayList;
import java.util.List;
import java.util.regex.Matcher;
import java.util.regex.Pattern;
import javax.tools.ToolProvider;

/** What README.md says of the class: its example runs, and each answer in a comment is given. */
public final class ReadmeTest {
    private static final Check CHECK = new Check("ReadmeTest");
    private static final Path README = Path.of("README.md");
    private static final String EXAMPLE = "ReadmeExample";

    // a call as a statement of its own, and a comment that begins with its answer
    private static final Pattern ANSWERED =
            Pattern.compile("(p\\.\\w+\\(.*?\\));\\s*// (-?\\d+|true|false)\\b.*");

    private final StringBuilder body = new StringBuilder();
    private final List<String> calls = new ArrayList<>();
    private final List<String> wanted = new ArrayList<>();

    private static String example(String readme) {
        String open = "```java\n";
        int start = readme.indexOf(open) + open.length();
        return readme.substring(start, readme.indexOf("```", start));
    }

    private void read(String example) {
        for (String line : example.split("\n")) {
            Matcher m = ANSWERED.matcher(line);
            if (m.matches()) {
                body.append("answers.add(").append(m.group(1)).append(");\n");
                calls.add(m.group(1));
                wanted.add(m.group(2));
            } else {
                // a call without its answer would stand here unseen
                CHECK.due(line + " has no answer", line.startsWith("p."), false);
                body.append(line).append("\n");
            }
        }
    }

    private String source() {
        return "public final class " + EXAMPLE + " {\n"
                + "public static void fill(java.util.List<Object> answers) {\n"
                + body + "}\n}\n";
    }

    private List<Object> run(Path folder) throws IOException, ReflectiveOperationException {
        Path file = folder.resolve(EXAMPLE + ".java");
        Files.writeString(file, source());
        int code = ToolProvider.getSystemJavaCompiler().run(null, null, null,
                "-cp", System.getProperty("java.class.path"), file.toString());
        CHECK.due("the example compiles", code, 0);
        List<Object> answers = new ArrayList<>();
        if (code == 0) {
            try (URLClassLoader loader = new URLClassLoader(new URL[] {folder.toUri().toURL()})) {
                loader.loadClass(EXAMPLE).getMethod("fill", List.class).invoke(null, answers);
            }
        }
        return answers;
    }

    private static void remove(Path folder) throws IOException {
        Files.deleteIfExists(folder.resolve(EXAMPLE + ".java"));
        Files.deleteIfExists(folder.resolve(EXAMPLE + ".class"));
        Files.delete(folder);
    }

    private void exampleAnswers() throws IOException, ReflectiveOperationException {
        Path folder = Files.createTempDirectory("readme");
        try {
            List<Object> answers = run(folder);
            CHECK.due("number of answers", answers.size(), wanted.size());
            for (int i = 0; i < answers.size(); i++) {
                String got = answers.get(i).toString();
                CHECK.due(calls.get(i) + " is " + got + ", README.md says " + wanted.get(i),
                        got.equals(wanted.get(i)), true);
            }
        } finally {
            remove(folder);
        }
    }

    private static void namesEverything(String readme, String example) {
        for (Method m : ShapeInference.class.getDeclaredMethods()) {
            if (Modifier.isPublic(m.getModifiers())) {
                CHECK.due("the table has " + m.getName(),
                        readme.contains("| `" + m.getName() + "("), true);
                CHECK.due("the example calls " + m.getName(),
                        example.contains("p." + m.getName() + "("), true);
            }
        }
        for (Field f : ShapeInference.class.getDeclaredFields()) {
            if (f.getName().startsWith("K_")) {
                CHECK.due("README.md has " + f.getName(),
                        readme.contains("`" + f.getName() + "`"), true);
            }
        }
        CHECK.due("README.md tells how the tests are run", readme.contains("\n    .ci/run\n"), true);
    }

    public static void main(String[] args) throws IOException, ReflectiveOperationException {
        String readme = Files.readString(README);
        String example = example(readme);
        ReadmeTest test = new ReadmeTest();
        test.read(example);
        test.exampleAnswers();
        namesEverything(readme, example);
        CHECK.end();
    }
}
