import java.io.IOException;
import java.lang.invoke.MethodHandles;
import java.nio.file.Files;
import java.nio.file.Path;
import java.util.ArrayList;
import java.util.List;
import java.util.regex.Matcher;
import java.util.regex.Pattern;
import javax.tools.ToolProvider;

/** The example of README.md, compiled as it stands there: each call answers what the README says behind it. */
public final class StoneSecretsReadme extends StoneSecretsChecks {
    private static final Pattern BLOCK = Pattern.compile("```java\n(.*?)```", Pattern.DOTALL);
    private static final Pattern ANSWERED = Pattern.compile("(x\\..*\\)); *// (-?\\d+|true|false|NONE)(:.*)?");
    private static final String EXAMPLE = "ReadmeExample";

    private static List<String> blocks() throws IOException {
        List<String> found = new ArrayList<>();
        Matcher matcher = BLOCK.matcher(Files.readString(Path.of("README.md")));
        while (matcher.find()) {
            found.add(matcher.group(1));
        }
        return found;
    }

    /** The example with its calls compared; the helper's block stands before it. */
    private static String program(String helper, String example) {
        StringBuilder text = new StringBuilder("public final class " + EXAMPLE + " extends StoneSecretsChecks {\n");
        text.append(helper).append("public static void run() {\n");
        for (String line : example.split("\n")) {
            Matcher matcher = ANSWERED.matcher(line);
            if (matcher.matches()) {
                String call = matcher.group(1);
                text.append("due(\"").append(call.replace("\"", "'")).append("\", ").append(call).append(", ").append(matcher.group(2)).append(");\n");
            } else {
                due("lines without an answer make, feed: " + line, line.startsWith("x."), false);
                text.append(line).append('\n');
            }
        }
        return text.append("}\n}\n").toString();
    }

    private static void runExample(String program, Path folder) throws IOException, ReflectiveOperationException {
        Path source = folder.resolve(EXAMPLE + ".java");
        Files.writeString(source, program);
        int code = ToolProvider.getSystemJavaCompiler().run(null, null, null,
            "-proc:none", "-cp", System.getProperty("java.class.path"), "-d", folder.toString(), source.toString());
        due("javac of the example", code, 0);
        if (code != 0) {
            return;
        }
        // A loader of its own could not see what the tests share without being public, so the class is defined beside this one.
        byte[] made = Files.readAllBytes(folder.resolve(EXAMPLE + ".class"));
        Class<?> example = MethodHandles.lookup().defineClass(made);
        example.getMethod("run").invoke(null);
    }

    public static void main(String[] args) throws IOException, ReflectiveOperationException {
        about("README.md");
        List<String> found = blocks();
        due("blocks of java", found.size(), 2);
        if (found.size() == 2) {
            Path folder = Files.createTempDirectory("readme");
            runExample(program(found.get(0), found.get(1)), folder);
            for (String name : new String[] {EXAMPLE + ".java", EXAMPLE + ".class"}) {
                Files.deleteIfExists(folder.resolve(name));
            }
            Files.deleteIfExists(folder);
        }
        end();
    }
}
