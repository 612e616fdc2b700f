import java.io.IOException;
import java.net.URL;
import java.net.URLClassLoader;
import java.nio.file.Files;
import java.nio.file.Path;
import java.util.ArrayList;
import java.util.List;
import java.util.Map;
import java.util.regex.Matcher;
import java.util.regex.Pattern;
import java.util.stream.Stream;
import javax.tools.ToolProvider;

/** The examples of README.md are compiled, and answer as their comments say; it names every call and every test. */
public final class ReadmeTest {
    private static final Pattern BLOCK = Pattern.compile("(?s)```java\n(.*?)```");
    private static final Pattern CALL =
        Pattern.compile("(?:int (\\w+) = )?(floor\\.\\w+\\([^;]*\\));\\s+// (-?\\d+|[A-Z]+)(: .*)?");
    private static final Map<String, Integer> WORDS = Map.of("NONE", Due.NONE, "UNKNOWN", Due.UNKNOWN,
        "OUTSIDE", Due.OUTSIDE, "NOT", Due.NOT, "FULL", Due.FULL);
    private static final Path WORK = Path.of("build/readme");

    public static void main(String[] args) throws IOException, ReflectiveOperationException {
        String readme = Files.readString(Path.of("README.md"));
        Matcher blocks = BLOCK.matcher(readme);
        int examples = 0;
        while (blocks.find()) {
            example("ReadmeExample" + examples, blocks.group(1));
            examples++;
        }
        Due.due("examples", examples, 2);
        namesAllCalls(readme);
        namesAllTests(readme);
        Due.due("how to run the tests", readme.contains("`.ci/run`") ? 1 : 0, 1);
        Due.finish();
    }

    private static void example(String name, String block) throws IOException, ReflectiveOperationException {
        List<String> calls = new ArrayList<>();
        List<Integer> wanted = new ArrayList<>();
        StringBuilder body = new StringBuilder();
        for (String line : block.split("\n")) {
            Matcher call = CALL.matcher(line);
            if (call.matches()) {
                String kept = call.group(1) == null ? "" : "int " + call.group(1) + " = ";
                body.append(kept + "answers[" + calls.size() + "] = " + call.group(2) + ";\n");
                calls.add(call.group(2));
                wanted.add(numberOf(call.group(3)));
            } else {
                body.append(line + "\n");
                boolean makes = line.equals("JoineryFloor floor = new JoineryFloor();");
                Due.due("README: a call with its answer: " + line, makes ? 1 : 0, 1);
            }
        }
        int[] answers = answersOf(name, body.toString(), calls.size());
        for (int k = 0; k < calls.size(); k++) Due.due("README: " + calls.get(k), answers[k], wanted.get(k));
    }

    private static int numberOf(String told) {
        return WORDS.containsKey(told) ? WORDS.get(told) : Integer.parseInt(told);
    }

    private static int[] answersOf(String name, String body, int calls)
        throws IOException, ReflectiveOperationException {
        Files.createDirectories(WORK);
        Path source = WORK.resolve(name + ".java");
        Files.writeString(source, "public final class " + name + " {\npublic static int[] answers() {\n"
            + "int[] answers = new int[" + calls + "];\n" + body + "return answers;\n}\n}\n");
        int failed = ToolProvider.getSystemJavaCompiler().run(null, null, null, "-cp",
            System.getProperty("java.class.path"), "-d", WORK.toString(), source.toString());
        Due.due("README: the example compiles", failed, 0);
        if (failed != 0) return new int[calls];
        try (URLClassLoader loader = new URLClassLoader(new URL[] {WORK.toUri().toURL()})) {
            return (int[]) loader.loadClass(name).getMethod("answers").invoke(null);
        }
    }

    private static void namesAllCalls(String readme) {
        for (int k = 0; k < Calls.NAMES.length; k++) {
            Matcher named = Pattern.compile("`" + Calls.NAMES[k] + "\\(([^)`]*)\\)`").matcher(readme);
            boolean found = false;
            while (named.find()) {
                String inside = named.group(1);
                int arguments = inside.isEmpty() ? 0 : inside.split(",").length;
                found |= arguments == Calls.ARGUMENTS[k];
            }
            Due.due("README names " + Calls.NAMES[k], found ? 1 : 0, 1);
        }
    }

    private static void namesAllTests(String readme) throws IOException {
        try (Stream<Path> files = Files.list(Path.of("src/test/java"))) {
            for (Path file : (Iterable<Path>) files::iterator) {
                String name = file.getFileName().toString().replace(".java", "");
                Due.due("README names " + name, readme.contains("`" + name + "`") ? 1 : 0, 1);
            }
        }
    }
}
