import java.io.IOException;
import java.lang.reflect.Method;
import java.lang.reflect.Modifier;
import java.net.URL;
import java.net.URLClassLoader;
import java.nio.charset.StandardCharsets;
import java.nio.file.Files;
import java.nio.file.Path;
import java.util.ArrayList;
import java.util.Comparator;
import java.util.List;
import java.util.regex.Matcher;
import java.util.regex.Pattern;
import java.util.stream.Stream;

/**
 * The run that README.md tells, compiled from its lines: each call answers what stands behind it, and no call of the class
 * is missing.
 */
public final class ReadmeTest extends Bench {
    private static final Path README = Path.of("README.md");
    private static final Pattern BLOCK = Pattern.compile("(?s)```java\n(.*?)```");
    private static final Pattern CALL = Pattern.compile("^p\\.\\w+\\(.*");
    /** A call, and behind it what it answers; words may follow. */
    private static final Pattern TOLD = Pattern.compile("(p\\.(\\w+)\\([^;]*\\)); +// (-?\\d+|true|false)\\b.*");

    private final StringBuilder methods = new StringBuilder();
    private final StringBuilder run = new StringBuilder();
    private final List<String> calls = new ArrayList<>();
    private final List<String> names = new ArrayList<>();
    private final List<String> answers = new ArrayList<>();

    public static void main(String[] args) throws Exception {
        part("README");
        ReadmeTest test = new ReadmeTest();
        test.read(Files.readString(README, StandardCharsets.UTF_8));
        test.hasEveryCall();
        Path room = Files.createTempDirectory("readme");
        try {
            test.compare(test.answered(room));
        } finally {
            remove(room);
        }
        close();
    }

    /** The blocks in their order: those that begin with static are methods, the others the run. */
    private void read(String readme) {
        Matcher block = BLOCK.matcher(readme);
        while (block.find()) {
            if (block.group(1).startsWith("static ")) {
                methods.append(block.group(1));
            } else {
                for (String line : block.group(1).split("\n")) run.append(asked(line)).append('\n');
            }
        }
    }

    /** A line of the run, as it keeps what its call answers. */
    private String asked(String line) {
        Matcher told = TOLD.matcher(line);
        if (!told.matches()) {
            due("'" + line + "' tells its answer", CALL.matcher(line).matches(), false);
            return line;
        }
        calls.add(told.group(1));
        names.add(told.group(2));
        answers.add(told.group(3));
        return "answers.add(String.valueOf(" + told.group(1) + "));";
    }

    private void hasEveryCall() {
        for (Method m : ProxyWalk.class.getDeclaredMethods()) {
            if (Modifier.isPublic(m.getModifiers())) due("'" + m.getName() + "' is called", names.contains(m.getName()), true);
        }
        due("calls of one object", calls.size() <= 512, true);
    }

    /** What the calls of the run answer. */
    private List<?> answered(Path room) throws Exception {
        Path file = room.resolve("ReadmeRun.java");
        Files.writeString(file, "public final class ReadmeRun {\n" + methods + "public static java.util.List<String> run() {\n"
            + "java.util.List<String> answers = new java.util.ArrayList<>();\n" + run + "return answers;\n}\n}\n");
        int compiled = new ProcessBuilder("javac", "--release", "17", "-cp", System.getProperty("java.class.path"),
            "-d", room.toString(), file.toString()).inheritIO().start().waitFor();
        due("the lines compile", compiled, 0);
        if (compiled != 0) return List.of();
        try (URLClassLoader loader = new URLClassLoader(new URL[] {room.toUri().toURL()}, ReadmeTest.class.getClassLoader())) {
            return (List<?>) loader.loadClass("ReadmeRun").getMethod("run").invoke(null);
        }
    }

    private void compare(List<?> got) {
        due("answers", got.size(), answers.size());
        for (int i = 0; i < Math.min(got.size(), answers.size()); i++) {
            part("README, " + calls.get(i) + " answers " + got.get(i) + ", told is " + answers.get(i));
            due("the same", got.get(i).equals(answers.get(i)), true);
        }
    }

    private static void remove(Path room) throws IOException {
        List<Path> found;
        try (Stream<Path> files = Files.walk(room)) {
            found = files.sorted(Comparator.reverseOrder()).toList();
        }
        for (Path file : found) Files.delete(file);
    }
}
