import java.io.IOException;
import java.lang.reflect.Method;
import java.lang.reflect.Modifier;
import java.net.URL;
import java.net.URLClassLoader;
import java.nio.file.Files;
import java.nio.file.Path;
import java.util.ArrayList;
import java.util.List;
import java.util.regex.Matcher;
import java.util.regex.Pattern;
import java.util.stream.Stream;
import javax.tools.ToolProvider;

/** README.md says how to use the class: its example is run, and it names every call and every test. */
public final class ReadmeTest {
    private static final Path TESTS = Path.of("src/test/java");
    /** A call whose answer the comment begins with. */
    private static final Pattern TOLD = Pattern.compile("(x\\.\\w+\\(.*\\));\\s*// (true|false|-?\\d+)\\b.*");
    private static final Pattern TEXT = Pattern.compile(".*// the text (\\S+)");

    private final String page = Files.readString(Path.of("README.md"));

    private ReadmeTest() throws IOException {
    }

    public static void main(String[] args) throws IOException, ReflectiveOperationException {
        ReadmeTest test = new ReadmeTest();
        test.callsAreNamed();
        test.testsAreNamed();
        test.exampleHolds();
        Check.end();
    }

    private void callsAreNamed() {
        Check.part("README.md, the calls");
        int calls = 0;
        for (Method method : StereoForms.class.getDeclaredMethods()) {
            if (Modifier.isPublic(method.getModifiers())) {
                calls++;
                Check.due(method.getName(), page.contains("\n| `" + method.getName() + "("), true);
            }
        }
        Check.due("calls of the face", calls, 17);
    }

    private void testsAreNamed() throws IOException {
        Check.part("README.md, the tests");
        Check.due("how to run all", page.contains("\n.ci/run\n"), true);
        try (Stream<Path> files = Files.list(TESTS)) {
            for (Path file : files.toList()) {
                String name = file.getFileName().toString();
                String named = name.endsWith("Test.java") ? "\n| `" + name.replace(".java", "") + "` |" : "`" + name + "`";
                Check.due(name, page.contains(named), true);
            }
        }
        Matcher row = Pattern.compile("\n\\| `(\\w+Test)` \\|").matcher(page);
        while (row.find()) {
            Check.due(row.group(1) + " is there", Files.exists(TESTS.resolve(row.group(1) + ".java")), true);
        }
    }

    private void exampleHolds() throws IOException, ReflectiveOperationException {
        Check.part("README.md, the example");
        List<String> asked = new ArrayList<>();
        List<String> due = new ArrayList<>();
        StringBuilder code = new StringBuilder("public final class Example {\n");
        code.append("public static void run(java.util.List<String> answers, StringBuilder text) {\n");
        String textDue = "";
        for (String line : example()) {
            Matcher told = TOLD.matcher(line);
            Matcher text = TEXT.matcher(line);
            if (told.matches()) {
                asked.add(told.group(1));
                due.add(told.group(2));
                code.append("answers.add(String.valueOf(").append(told.group(1)).append("));\n");
            } else {
                code.append(line.replace("System.out.print(", "text.append(")).append('\n');
            }
            textDue = text.matches() ? text.group(1) : textDue;
        }
        StringBuilder text = new StringBuilder();
        List<String> answers = answersOf(code.append("}\n}\n").toString(), text);
        Check.due("calls with an answer", answers.size() > 10, true);
        for (int k = 0; k < due.size(); k++) {
            Check.due(asked.get(k), answers.get(k), due.get(k));
        }
        Check.due("the text", text.toString(), textDue);
    }

    private List<String> example() {
        String begin = "```java\n";
        int from = page.indexOf(begin) + begin.length();
        return page.substring(from, page.indexOf("```", from)).lines().toList();
    }

    private static List<String> answersOf(String code, StringBuilder text)
            throws IOException, ReflectiveOperationException {
        Path folder = Files.createTempDirectory("example");
        Path source = folder.resolve("Example.java");
        Path compiled = folder.resolve("Example.class");
        Files.writeString(source, code);
        List<String> answers = new ArrayList<>();
        int exit = ToolProvider.getSystemJavaCompiler().run(null, null, null,
                "-cp", System.getProperty("java.class.path"), "-d", folder.toString(), source.toString());
        Check.due("the compiler", exit, 0);
        try (URLClassLoader loader = new URLClassLoader(new URL[] {folder.toUri().toURL()})) {
            loader.loadClass("Example").getMethod("run", List.class, StringBuilder.class).invoke(null, answers, text);
        }
        Files.deleteIfExists(compiled);
        Files.delete(source);
        Files.delete(folder);
        return answers;
    }
}
