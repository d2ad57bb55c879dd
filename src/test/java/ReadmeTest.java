import java.io.IOException;
import java.lang.reflect.InvocationTargetException;
import java.lang.reflect.Method;
import java.lang.reflect.Modifier;
import java.nio.file.Files;
import java.nio.file.Path;
import java.util.List;
import java.util.TreeSet;
import java.util.regex.Matcher;
import java.util.regex.Pattern;
import java.util.stream.Stream;

/** README.md: the answers that its example tells, and whether it names every call and every test. */
public final class ReadmeTest {
    private static final Pattern WRITE = Pattern.compile("write\\(prover, \"(.*)\"\\);");
    private static final Pattern CALL = Pattern.compile("prover\\.(\\w+)\\((.*)\\);\\s*// (-?\\d+)(:.*)?");
    private static final Pattern TEST = Pattern.compile("\\| (\\w+Test) \\|.*");

    public static void main(String[] args) throws IOException, ReflectiveOperationException {
        List<String> lines = Files.readAllLines(Path.of("README.md"));
        runExample(lines);
        namesCalls(lines);
        namesTests(lines);
        Due.end();
    }

    private static void runExample(List<String> lines) throws ReflectiveOperationException {
        OnceProver prover = new OnceProver();
        int answers = 0;
        for (String line : lines) {
            Matcher write = WRITE.matcher(line);
            Matcher call = CALL.matcher(line);
            if (write.matches()) {
                Due.say(prover, write.group(1));
            } else if (call.matches()) {
                Due.is(line, answer(prover, call.group(1), call.group(2)), Integer.parseInt(call.group(3)));
                answers++;
            } else if (line.startsWith("prover.")) {
                Due.same("the answer of " + line, "not told", "told");
            }
        }
        Due.is("an example without answers", answers > 0 ? 0 : 1, 0);
    }

    private static int answer(OnceProver prover, String name, String arguments) throws ReflectiveOperationException {
        String[] words = arguments.isEmpty() ? new String[0] : arguments.split(", ");
        Class<?>[] types = new Class<?>[words.length];
        Object[] values = new Object[words.length];
        for (int i = 0; i < words.length; i++) {
            types[i] = int.class;
            values[i] = Integer.parseInt(words[i]);
        }
        try {
            return (int) OnceProver.class.getMethod(name, types).invoke(prover, values);
        } catch (InvocationTargetException e) {
            throw new IllegalStateException(name + " throws", e.getCause());
        }
    }

    private static void namesCalls(List<String> lines) {
        String all = String.join("\n", lines.stream().filter(line -> line.startsWith("| `")).toList());
        for (Method method : OnceProver.class.getDeclaredMethods()) {
            if (Modifier.isPublic(method.getModifiers())) {
                Due.is("the table names " + method.getName(), all.contains("`" + method.getName() + "`") ? 1 : 0, 1);
            }
        }
    }

    private static void namesTests(List<String> lines) throws IOException {
        TreeSet<String> told = new TreeSet<>();
        for (String line : lines) {
            Matcher test = TEST.matcher(line);
            if (test.matches()) {
                told.add(test.group(1));
            }
        }
        TreeSet<String> there = new TreeSet<>();
        try (Stream<Path> files = Files.list(Path.of("src/test/java"))) {
            files.forEach(file -> there.add(file.getFileName().toString().replace(".java", "")));
        }
        Due.same("the tests that the page names", told.toString(), there.toString());
    }
}
