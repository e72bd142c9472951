import java.io.IOException;
import java.io.UncheckedIOException;
import java.lang.reflect.Array;
import java.lang.reflect.Field;
import java.lang.reflect.Method;
import java.lang.reflect.Modifier;
import java.net.URL;
import java.net.URLClassLoader;
import java.nio.file.Files;
import java.nio.file.Path;
import java.util.ArrayList;
import java.util.List;
import java.util.regex.Matcher;
import java.util.regex.Pattern;
import java.util.stream.Stream;
import javax.tools.JavaCompiler;
import javax.tools.ToolProvider;

/** Tries what README.md says: each example with the answers that it tells, its tables, its commands. */
public final class ReadmeTest {
    private static final Path README = Path.of("README.md");
    private static final Path CLASS_FILE = Path.of("src/main/java/NamedToWed.java");
    private static final Path TESTS = Path.of("src/test/java");
    private static final Pattern BLOCK = Pattern.compile("```(\\w*)\\n(.*?)```", Pattern.DOTALL);
    private static final Pattern ANSWER = Pattern.compile("(valley\\.\\w+\\(.*\\)); *// (-?\\d+|true|false)(: .+)?");
    private static final Pattern NO_ANSWER =
            Pattern.compile("NamedToWed valley = new NamedToWed\\(\\);|tell\\(valley, \"[^\"]*\"\\);");
    private static final Pattern PART = Pattern.compile("private static final class (\\w+)");

    private ReadmeTest() {
    }

    public static void main(String[] args) {
        Cases.run(ReadmeTest.class);
    }

    /** The first block is the helper; each other one is written out as a program that gathers its answers. */
    static void examplesAnswerAsTold() {
        List<String> blocks = blocks("java");
        StringBuilder program = new StringBuilder("public final class ReadmeExamples {\n"
                + "public static final java.util.List<String[]> ANSWERS = new java.util.ArrayList<>();\n"
                + "static void gather(String call, String due, Object got) {\n"
                + "ANSWERS.add(new String[] {call, due, String.valueOf(got)});\n}\n");
        program.append(blocks.get(0)).append("public static void run() {\n");
        for (String block : blocks.subList(1, blocks.size())) {
            program.append("{\n");
            block.lines().forEach(line -> program.append(gathering(line)).append('\n'));
            program.append("}\n");
        }
        program.append("}\n}\n");
        List<String[]> answers = answersOf(program.toString());
        for (String[] answer : answers) {
            Cases.due("README: " + answer[0], answer[1], answer[2]);
        }
        for (Method call : NamedToWed.class.getDeclaredMethods()) {
            boolean shown = answers.stream().anyMatch(answer -> answer[0].startsWith("valley." + call.getName() + "("));
            Cases.due("README: shows " + call, true, shown || !Modifier.isPublic(call.getModifiers()));
        }
    }

    private static String gathering(String line) {
        Matcher told = ANSWER.matcher(line);
        if (told.matches()) {
            String call = told.group(1);
            String quoted = call.replace("\\", "\\\\").replace("\"", "\\\"");
            return "gather(\"" + quoted + "\", \"" + told.group(2) + "\", " + call + ");";
        }
        Cases.due("README: a line of a call and its answer: " + line, true, NO_ANSWER.matcher(line).matches());
        return line;
    }

    private static List<String[]> answersOf(String program) {
        try {
            Path dir = Files.createTempDirectory("readme");
            try {
                Path file = Files.writeString(dir.resolve("ReadmeExamples.java"), program);
                JavaCompiler compiler = ToolProvider.getSystemJavaCompiler();
                int code = compiler.run(null, null, null, "-Xlint:all", "-d", dir.toString(),
                        "-cp", System.getProperty("java.class.path"), file.toString());
                Cases.due("README: the examples compile", 0, code);
                return code == 0 ? answersIn(dir) : List.of();
            } finally {
                remove(dir);
            }
        } catch (IOException | ReflectiveOperationException failed) {
            throw new IllegalStateException(failed);
        }
    }

    private static List<String[]> answersIn(Path dir) throws IOException, ReflectiveOperationException {
        try (URLClassLoader loader = new URLClassLoader(new URL[] {dir.toUri().toURL()})) {
            Class<?> examples = loader.loadClass("ReadmeExamples");
            examples.getMethod("run").invoke(null);
            List<String[]> answers = new ArrayList<>();
            for (Object answer : (List<?>) examples.getField("ANSWERS").get(null)) {
                answers.add((String[]) answer);
            }
            return answers;
        }
    }

    private static void remove(Path dir) throws IOException {
        try (Stream<Path> files = Files.list(dir)) {
            for (Path file : files.toList()) {
                Files.delete(file);
            }
        }
        Files.delete(dir);
    }

    /** Each part of the class stands in the table, and nothing else. */
    static void partsAreThoseOfTheClass() {
        List<String> parts = new ArrayList<>();
        Matcher part = PART.matcher(text(CLASS_FILE));
        while (part.find()) {
            parts.add(part.group(1));
        }
        List<String> told = new ArrayList<>();
        text(README).lines().filter(line -> line.startsWith("| `")).forEach(
                line -> addQuoted(line.substring(0, line.indexOf('|', 1)), told));
        Cases.due("README: parts", String.join(" ", parts.stream().sorted().toList()),
                String.join(" ", told.stream().sorted().toList()));
    }

    private static void addQuoted(String line, List<String> all) {
        Matcher quoted = Pattern.compile("`(\\w+)").matcher(line);
        while (quoted.find()) {
            all.add(quoted.group(1));
        }
    }

    static void arraysAreSome4000ElementsInAll() throws IllegalAccessException {
        int all = elements(new NamedToWed(), 0);
        Cases.due("README: some 4,000 elements, not " + all, true, all > 3500 && all < 4500);
    }

    private static int elements(Object object, int deep) throws IllegalAccessException {
        int all = 0;
        for (Field field : object.getClass().getDeclaredFields()) {
            if (Modifier.isStatic(field.getModifiers()) || field.getType().isPrimitive()) {
                continue;
            }
            field.setAccessible(true);
            Object part = field.get(object);
            all += part.getClass().isArray() ? Array.getLength(part) : deep < 3 ? elements(part, deep + 1) : 0;
        }
        return all;
    }

    /** Each file of tests is told, and each one that is told is there. */
    static void testsAreThoseOfTheProject() {
        String tests = text(README);
        tests = tests.substring(tests.indexOf("## Tests"));
        List<String> there = new ArrayList<>();
        try (Stream<Path> files = Files.list(TESTS)) {
            files.forEach(file -> there.add(file.getFileName().toString().replace(".java", "")));
        } catch (IOException failed) {
            throw new UncheckedIOException(failed);
        }
        List<String> told = new ArrayList<>();
        tests.lines().filter(line -> line.startsWith("- `")).forEach(
                line -> addQuoted(line.substring(0, line.indexOf(':') < 0 ? line.length() : line.indexOf(':')), told));
        for (String test : there) {
            Cases.due("README: tells of " + test, true, told.contains(test));
        }
        for (String test : told) {
            Cases.due("README: " + test + " is there", true, there.contains(test));
        }
    }

    /** What the commands name is where they name it; .ci/run itself is what runs this test. */
    static void commandsNameWhatIsThere() {
        Cases.due("README: .ci/run", true, Files.isExecutable(Path.of(".ci/run")));
        List<String> blocks = blocks("");
        Cases.due("README: one block of commands", 1, blocks.size());
        String commands = blocks.get(0);
        Cases.due("README: javac takes the class and the tests", true,
                commands.startsWith("javac -d /tmp/out " + CLASS_FILE + " " + TESTS + "/*.java\n"));
        Matcher run = Pattern.compile("java -cp /tmp/out (\\w+)").matcher(commands);
        int runs = 0;
        for (; run.find(); runs++) {
            Cases.due("README: " + run.group(1), true, Files.exists(TESTS.resolve(run.group(1) + ".java")));
        }
        Cases.due("README: commands that run a test", true, runs > 0);
    }

    private static List<String> blocks(String language) {
        List<String> all = new ArrayList<>();
        Matcher block = BLOCK.matcher(text(README));
        while (block.find()) {
            if (block.group(1).equals(language)) {
                all.add(block.group(2));
            }
        }
        return all;
    }

    private static String text(Path file) {
        try {
            return Files.readString(file);
        } catch (IOException failed) {
            throw new UncheckedIOException(failed);
        }
    }
}
