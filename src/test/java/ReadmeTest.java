import java.io.ByteArrayOutputStream;
import java.io.IOException;
import java.io.PrintStream;
import java.lang.reflect.Method;
import java.lang.reflect.Modifier;
import java.net.URL;
import java.net.URLClassLoader;
import java.nio.file.Files;
import java.nio.file.Path;
import java.util.ArrayList;
import java.util.List;
import java.util.Set;
import java.util.TreeSet;
import java.util.regex.Matcher;
import java.util.regex.Pattern;
import javax.tools.ToolProvider;

/** README.md: its calls are told in the document's words, and its example answers what it says. */
public final class ReadmeTest {
    private static final Due due = new Due("ReadmeTest");
    private static final String HEAD = "public final class Example {";
    // A call on a line of its own, with the name of what it answers if there is one, and its answer behind it.
    private static final Pattern CALL =
            Pattern.compile("(\\s+(?:(?:int )?(\\w+) = )?)(x\\.(\\w+)\\(.*\\)); +// (-?\\d+|true|false)(?:, .*)?");

    public static void main(String[] args) throws IOException, ReflectiveOperationException {
        String readme = Files.readString(Path.of("README.md"));
        calls(readme, Files.readString(Path.of("../shared/DOC.md")));
        refusals(readme);
        example(block(readme, "java"), block(readme, "text"));
        due.end();
    }

    private static void calls(String readme, String document) {
        Matcher promises = Pattern.compile("(?m)^`[^`]+\\)`: .+$").matcher(document);
        int count = 0;
        while (promises.find()) {
            due.is("README has: " + promises.group(), readme.contains("\n- " + promises.group() + "\n"), true);
            count++;
        }
        due.is("promises in the document", count, 1 + face().size());
        due.is("calls in README", Pattern.compile("(?m)^- `[^`]+\\)`: ").matcher(readme).results().count(), count);
    }

    private static void refusals(String readme) {
        due.is("UNKNOWN", readme.contains("| `UNKNOWN` (" + QueryRunner.UNKNOWN + ") |"), true);
        due.is("OUTSIDE", readme.contains("| `OUTSIDE` (" + QueryRunner.OUTSIDE + ") |"), true);
        due.is("STATE", readme.contains("| `STATE` (" + QueryRunner.STATE + ") |"), true);
        due.is("ROOM", readme.contains("| `ROOM` (" + QueryRunner.ROOM + ") |"), true);
    }

    private static void example(String program, String printed) throws IOException, ReflectiveOperationException {
        List<String> lines = new ArrayList<>();
        List<String> told = new ArrayList<>();
        List<String> answers = new ArrayList<>();
        Set<String> names = new TreeSet<>();
        for (String line : program.split("\n")) {
            Matcher call = CALL.matcher(line);
            if (line.equals(HEAD)) {
                lines.add(line + " public static final java.util.List<Object> answers = new java.util.ArrayList<>();");
            } else if (call.matches()) {
                lines.add(call.group(2) == null ? "answers.add(" + call.group(3) + ");"
                        : call.group(1) + call.group(3) + "; answers.add(" + call.group(2) + ");");
                told.add(call.group(3));
                answers.add(call.group(5));
                names.add(call.group(4));
            } else {
                due.is("an answer stands behind: " + line, line.matches("\\s+(int )?(\\w+ = )?x\\..*"), false);
                lines.add(line);
            }
        }
        due.is("the example has every call: " + names, names.equals(face()), true);
        List<Object> got = new ArrayList<>();
        String output = run(String.join("\n", lines), got);
        due.is("what is printed: " + output, output.equals(printed), true);
        due.is("calls of the example", got.size(), answers.size());
        for (int i = 0; i < Math.min(got.size(), answers.size()); i++) {
            due.is("call " + i + ", " + told.get(i) + " is not " + answers.get(i) + " but " + got.get(i) + ":",
                    String.valueOf(got.get(i)).equals(answers.get(i)), true);
        }
    }

    private static Set<String> face() {
        Set<String> names = new TreeSet<>();
        for (Method method : QueryRunner.class.getDeclaredMethods()) {
            if (Modifier.isPublic(method.getModifiers())) {
                names.add(method.getName());
            }
        }
        return names;
    }

    private static String block(String readme, String language) {
        Matcher block = Pattern.compile("(?s)```" + language + "\n(.*?)```").matcher(readme);
        boolean isThere = block.find();
        due.is("README has a block of " + language, isThere, true);
        return isThere ? block.group(1) : "";
    }

    /** Compiles and runs a program, which leaves what its calls answer in a list: what it prints. */
    private static String run(String program, List<Object> answers) throws IOException, ReflectiveOperationException {
        Path directory = Files.createTempDirectory("readme");
        Path source = directory.resolve("Example.java");
        Files.writeString(source, program);
        int compiled = ToolProvider.getSystemJavaCompiler().run(null, null, null, "-encoding", "UTF-8",
                "-cp", System.getProperty("java.class.path"), "-d", directory.toString(), source.toString());
        due.is("the example is compiled", compiled, 0);
        String output = "";
        if (compiled == 0) {
            try (URLClassLoader loader = new URLClassLoader(new URL[] {directory.toUri().toURL()})) {
                Class<?> example = loader.loadClass("Example");
                output = outputOf(example.getMethod("main", String[].class));
                answers.addAll((List<?>) example.getField("answers").get(null));
            }
            Files.delete(directory.resolve("Example.class"));
        }
        Files.delete(source);
        Files.delete(directory);
        return output;
    }

    private static String outputOf(Method main) throws ReflectiveOperationException {
        PrintStream before = System.out;
        ByteArrayOutputStream bytes = new ByteArrayOutputStream();
        System.setOut(new PrintStream(bytes, true));
        main.invoke(null, (Object) new String[0]);
        System.setOut(before);
        return bytes.toString().replace(System.lineSeparator(), "\n");
    }
}
