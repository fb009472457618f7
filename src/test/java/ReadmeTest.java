import java.io.File;
import java.net.URL;
import java.net.URLClassLoader;
import java.nio.file.Files;
import java.nio.file.Path;
import java.util.ArrayList;
import java.util.List;
import java.util.regex.Matcher;
import java.util.regex.Pattern;
import javax.tools.ToolProvider;

/** README.md works as it stands: its example is compiled and run, and each answer that it tells is looked at. */
public final class ReadmeTest {
    private static final Pattern EXAMPLE = Pattern.compile("```java\n(.*?)```", Pattern.DOTALL);
    private static final Pattern CALL = Pattern.compile("(mire\\..*\\)); *// (-?\\d+)(:.*)?");
    private static final Path PLACE = Path.of("build", "readme");

    public static void main(String[] args) throws Exception {
        String page = Files.readString(Path.of("README.md"));
        Matcher example = EXAMPLE.matcher(page);
        Check.due("there is an example", example.find() ? 1 : 0, 1);
        answersAsTold(example.group(1));
        namesAllTests(page);
        Check.due("what runs the tests", new File(".ci/run").canExecute() ? 1 : 0, 1);
        Check.end(ReadmeTest.class);
    }

    private static void answersAsTold(String example) throws Exception {
        List<String> calls = new ArrayList<>();
        List<Long> told = new ArrayList<>();
        StringBuilder body = new StringBuilder();
        for (String line : example.split("\n")) {
            Matcher call = CALL.matcher(line);
            boolean isCall = call.matches();
            Check.due("a call tells its answer: " + line, line.startsWith("mire.") == isCall ? 1 : 0, 1);
            if (isCall) {
                calls.add(call.group(1));
                told.add(Long.parseLong(call.group(2)));
            }
            body.append(isCall ? "got[i++] = " : "").append(line).append('\n');
        }
        long[] got = run("long[] got = new long[" + calls.size() + "];\nint i = 0;\n" + body + "return got;\n");
        Check.due("calls of the example", got.length, calls.size());
        for (int i = 0; i < got.length; i++) {
            Check.due("README's " + calls.get(i), got[i], told.get(i));
        }
    }

    private static long[] run(String body) throws Exception {
        Files.createDirectories(PLACE);
        Path file = PLACE.resolve("ReadmeExample.java");
        Files.writeString(file, "public final class ReadmeExample {\npublic static long[] got() {\n" + body + "}\n}\n");
        int exit = ToolProvider.getSystemJavaCompiler().run(null, null, null, "-cp",
            System.getProperty("java.class.path"), "-d", PLACE.toString(), file.toString());
        Check.due("the example is compiled", exit, 0);
        if (exit != 0) {
            return new long[0];
        }
        try (URLClassLoader loader = new URLClassLoader(new URL[] {PLACE.toUri().toURL()})) {
            return (long[]) loader.loadClass("ReadmeExample").getMethod("got").invoke(null);
        }
    }

    private static void namesAllTests(String page) {
        String[] names = new File("src/test/java").list();
        Check.due("there are tests", names != null && names.length > 0 ? 1 : 0, 1);
        for (String name : names) {
            if (name.endsWith("Test.java")) {
                String test = name.substring(0, name.length() - ".java".length());
                Check.due("README names " + test, page.contains("`" + test + "`") ? 1 : 0, 1);
            }
        }
    }
}
