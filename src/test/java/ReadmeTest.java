import java.io.IOException;
import java.lang.reflect.InvocationTargetException;
import java.net.URL;
import java.net.URLClassLoader;
import java.nio.file.Files;
import java.nio.file.Path;
import java.util.ArrayList;
import java.util.List;
import java.util.regex.Matcher;
import java.util.regex.Pattern;

/** Compiles what README.md shows of the class's use, and looks whether each call there answers as it is told behind it. */
public final class ReadmeTest {
    private static final String NAME = "ReadmeExample";
    private static final Pattern BLOCK = Pattern.compile("```java\n(.*?)```", Pattern.DOTALL);
    private static final Pattern CALL = Pattern.compile("(x\\.\\w+\\(.*\\)); +// (-?\\d+): .+");

    private ReadmeTest() {
    }

    public static void main(String[] args) throws IOException, InterruptedException, ReflectiveOperationException {
        List<String> calls = new ArrayList<>();
        List<String> answers = new ArrayList<>();
        String program = program(Files.readString(Path.of("README.md")), calls, answers);
        Object[] got = run(program);
        Told.due("calls answered", got.length, calls.size());
        for (int i = 0; i < Math.min(got.length, calls.size()); i++) {
            Told.due("README.md: " + calls.get(i), String.valueOf(got[i]), answers.get(i));
        }
        Told.close("ReadmeTest");
    }

    /** A program of all blocks, whose main part hands out what each call answered, true as 1. */
    private static String program(String readme, List<String> calls, List<String> answers) {
        StringBuilder helpers = new StringBuilder();
        StringBuilder main = new StringBuilder();
        for (Matcher block = BLOCK.matcher(readme); block.find();) {
            if (block.group(1).startsWith("static ")) {
                helpers.append(block.group(1));
                continue;
            }
            for (String line : block.group(1).split("\n")) {
                Matcher call = CALL.matcher(line);
                if (call.matches()) {
                    calls.add(call.group(1));
                    answers.add(call.group(2));
                    main.append("got.add(number(").append(call.group(1)).append("));\n");
                } else {
                    Told.due("the line is read: " + line, !line.startsWith("x."), true);
                    main.append(line).append('\n');
                }
            }
        }
        return "public final class " + NAME + " {\n" + helpers
                + "static int number(int n) { return n; }\n"
                + "static int number(boolean b) { return b ? 1 : 0; }\n"
                + "public static Object[] run() {\n"
                + "java.util.ArrayList<Integer> got = new java.util.ArrayList<>();\n" + main
                + "return got.toArray();\n}\n}\n";
    }

    private static Object[] run(String program)
            throws IOException, InterruptedException, ReflectiveOperationException {
        Path place = Files.createTempDirectory("readme");
        Path source = place.resolve(NAME + ".java");
        Path compiled = place.resolve(NAME + ".class");
        try {
            Files.writeString(source, program);
            // The javac that .ci/run itself goes by: a java without the compiler's own library would do, too.
            int failed = new ProcessBuilder("javac", "-cp", System.getProperty("java.class.path"), "-d",
                    place.toString(), source.toString()).inheritIO().start().waitFor();
            Told.due("what README.md shows compiles", failed, 0);
            return failed == 0 ? answers(place) : new Object[0];
        } finally {
            Files.deleteIfExists(compiled);
            Files.deleteIfExists(source);
            Files.deleteIfExists(place);
        }
    }

    private static Object[] answers(Path place) throws IOException, ReflectiveOperationException {
        try (URLClassLoader loader = new URLClassLoader(new URL[] {place.toUri().toURL()})) {
            return (Object[]) loader.loadClass(NAME).getMethod("run").invoke(null);
        } catch (InvocationTargetException e) {
            Told.due("what README.md shows runs", e.getCause().toString(), "without a fault");
            return new Object[0];
        }
    }
}
