import java.net.URL;
import java.net.URLClassLoader;
import java.nio.file.Files;
import java.nio.file.Path;
import java.util.ArrayList;
import java.util.List;
import java.util.regex.Matcher;
import java.util.regex.Pattern;
import javax.tools.ToolProvider;

/** The example of README.md: each line with a number behind // answers this number. */
public final class ReadmeTest {
    private static final Pattern CALL = Pattern.compile("(desk\\..*\\)); *// (-?[0-9.]+)(:.*)?");

    private final List<String> calls = new ArrayList<>();
    private final List<Double> due = new ArrayList<>();

    public static void main(String[] args) throws Exception {
        String readme = Files.readString(Path.of("README.md"));
        int start = readme.indexOf("```java\n");
        int end = readme.indexOf("```", start + 8);
        Check.same("whether README.md has an example", start >= 0 && end > start ? 1 : 0, 1);
        if (start >= 0 && end > start) {
            new ReadmeTest().look(readme.substring(start + 8, end));
        }
        Check.end("ReadmeTest");
    }

    private void look(String example) throws Exception {
        String program = program(example);
        Check.same("whether the example has calls", calls.size() > 10 ? 1 : 0, 1);
        double[] got = answers(program);
        Check.same("answers of the example", got.length, calls.size());
        for (int k = 0; k < got.length; k++) {
            Check.same("README.md: " + calls.get(k), got[k], due.get(k));
        }
    }

    private String program(String example) {
        StringBuilder text = new StringBuilder();
        for (String line : example.lines().toList()) {
            Matcher call = CALL.matcher(line);
            if (call.matches()) {
                text.append("got[").append(calls.size()).append("] = ").append(call.group(1)).append(";\n");
                calls.add(call.group(1));
                due.add(Double.valueOf(call.group(2)));
            } else {
                text.append(line).append('\n');
            }
        }
        return "public class Example { public static double[] answers() {\ndouble[] got = new double["
            + calls.size() + "];\n" + text + "return got;\n} }\n";
    }

    private static double[] answers(String program) throws Exception {
        Path room = Files.createTempDirectory("readme");
        Path source = room.resolve("Example.java");
        Files.writeString(source, program);
        int code = ToolProvider.getSystemJavaCompiler().run(null, null, null, "-proc:none",
            "-cp", System.getProperty("java.class.path"), "-d", room.toString(), source.toString());
        double[] got = {};
        if (code == 0) {
            try (URLClassLoader loader = new URLClassLoader(new URL[] {room.toUri().toURL()})) {
                got = (double[]) loader.loadClass("Example").getMethod("answers").invoke(null);
            }
        }
        Files.deleteIfExists(room.resolve("Example.class"));
        Files.deleteIfExists(source);
        Files.deleteIfExists(room);
        return got;
    }
}
