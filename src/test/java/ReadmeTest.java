import java.lang.reflect.Method;
import java.net.URL;
import java.net.URLClassLoader;
import java.nio.file.Files;
import java.nio.file.Path;
import java.util.regex.Matcher;
import java.util.regex.Pattern;
import javax.tools.ToolProvider;

/**
 * The examples of README.md: each is compiled, and each call with a number in the comment behind it must answer that.
 * It is run from the project's own directory.
 */
public final class ReadmeTest {
    private static final Pattern EXAMPLE = Pattern.compile("(?s)```java\n(.*?)```");
    private static final Pattern CALL = Pattern.compile("(int \\w+ = )?(shed\\..*\\)); +// (-?\\d+)\\b.*");
    private static final Check CHECK = new Check();

    public static void main(String[] args) throws Exception {
        String readme = Files.readString(Path.of("README.md"));
        Matcher example = EXAMPLE.matcher(readme);
        int examples = 0;
        while (example.find()) {
            runExample("Example" + examples, example.group(1));
            examples++;
        }
        CHECK.due("README.md has examples", 1, examples > 0 ? 1 : 0);
        constantsAreTold(readme);
        CHECK.close("ReadmeTest");
    }

    /** Called by the examples, with a line of README.md and the number that it tells. */
    public static int answer(String line, int told, int got) {
        CHECK.due("README.md: " + line, told, got);
        return got;
    }

    private static void runExample(String name, String lines) throws Exception {
        Path made = Files.createTempDirectory("readme");
        Path source = made.resolve(name + ".java");
        String start = "public class " + name + " {\npublic static void run() {\n";
        Files.writeString(source, start + withChecks(lines) + "}\n}\n");
        String classPath = System.getProperty("java.class.path");
        int wrong = ToolProvider.getSystemJavaCompiler().run(null, null, null, "-cp", classPath, source.toString());
        CHECK.due(name + " is compiled", 0, wrong);
        if (wrong == 0) {
            try (URLClassLoader loader = new URLClassLoader(new URL[] {made.toUri().toURL()})) {
                Method run = loader.loadClass(name).getMethod("run");
                run.invoke(null);
            }
        }
        Files.deleteIfExists(made.resolve(name + ".class"));
        Files.delete(source);
        Files.delete(made);
    }

    private static String withChecks(String lines) {
        StringBuilder code = new StringBuilder();
        for (String line : lines.split("\n")) {
            Matcher call = CALL.matcher(line);
            if (call.matches()) {
                String told = line.replace("\\", "\\\\").replace("\"", "\\\"");
                String start = call.group(1) == null ? "" : call.group(1);
                code.append(start).append("ReadmeTest.answer(\"").append(told).append("\", ").append(call.group(3))
                        .append(", ").append(call.group(2)).append(");\n");
            } else {
                CHECK.due("a number behind the call, README.md: " + line, -1, line.startsWith("shed.") ? 0 : -1);
                code.append(line).append('\n');
            }
        }
        return code.toString();
    }

    private static void constantsAreTold(String readme) {
        String[] names = {"INVALID_ARGUMENT", "NOT_POSSIBLE", "LIMIT_REACHED", "NOT_FOUND"};
        int[] answers = {ToolShed.INVALID_ARGUMENT, ToolShed.NOT_POSSIBLE, ToolShed.LIMIT_REACHED, ToolShed.NOT_FOUND};
        for (int i = 0; i < names.length; i++) {
            String row = "| `" + names[i] + "` | " + answers[i] + " |";
            CHECK.due("README.md has " + row, 1, readme.contains(row) ? 1 : 0);
        }
    }
}
