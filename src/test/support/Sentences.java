import java.io.IOException;
import java.lang.reflect.InvocationTargetException;
import java.lang.reflect.Method;
import java.nio.file.Files;
import java.nio.file.Path;
import java.util.Arrays;
import java.util.BitSet;
import java.util.Comparator;
import java.util.LinkedHashMap;
import java.util.Map;

/** Runs tests of single sentences, and looks at whether the document has these sentences, and no others. */
final class Sentences {
    private final Map<String, String> sections = new LinkedHashMap<>();
    private final Map<String, BitSet> told = new LinkedHashMap<>();

    /** Reads the document. Promises bear their number alone: "Promise 2". */
    Sentences(Path document) throws IOException {
        String heading = "";
        for (String line : Files.readAllLines(document)) {
            if (line.startsWith("#")) {
                heading = line.replaceAll("^#+ ", "").replaceAll("^(Promise \\d+):.*", "$1");
                sections.put(heading, "");
            } else if (!line.startsWith("---- ") && !line.matches("`.*\\(.*\\)`")) {
                sections.merge(heading, line, (all, more) -> (all + " " + more).replaceAll("\\s+", " ").trim());
            }
        }
        for (String section : sections.keySet()) {
            told.put(section, new BitSet());
        }
    }

    /** Each test of the class, by its name; one that asks nothing is wrong. */
    void run(Class<?> tests) {
        Method[] methods = tests.getDeclaredMethods();
        Arrays.sort(methods, Comparator.comparing(Method::getName));
        for (Method method : methods) {
            Says says = method.getAnnotation(Says.class);
            if (says == null) {
                continue;
            }
            Due.about(says.of() + ", \"" + says.words() + "\", " + method.getName());
            tell(says.of(), says.words());
            long before = Due.asked();
            try {
                method.invoke(null);
            } catch (IllegalAccessException | InvocationTargetException e) {
                Due.same("the test", "" + (e.getCause() == null ? e : e.getCause()), "one that ends");
            }
            Due.is("a test that asks nothing", Due.asked() > before ? 1 : 0, 1);
            Due.about("");
        }
    }

    /** Marks words of the document as tested, or as needing no test. */
    void tell(String heading, String words) {
        String section = sections.getOrDefault(heading, "");
        int at = section.indexOf(words);
        Due.is("under \"" + heading + "\" stands \"" + words + "\"", at >= 0 ? 1 : 0, 1);
        while (at >= 0) {
            told.get(heading).set(at, at + words.length());
            at = section.indexOf(words, at + 1);
        }
    }

    /** Marks all that stands under a heading. */
    void tellAll(String heading) {
        tell(heading, sections.getOrDefault(heading, ""));
    }

    /** What has not been marked is wrong: a sentence without a test. */
    void allAreTold() {
        for (Map.Entry<String, String> section : sections.entrySet()) {
            StringBuilder rest = new StringBuilder();
            for (int i = 0; i < section.getValue().length(); i++) {
                rest.append(told.get(section.getKey()).get(i) ? '~' : section.getValue().charAt(i));
            }
            Due.same("without a test under \"" + section.getKey() + "\"",
                    rest.toString().replaceAll("[~\\s-]+", " ").trim(), "");
        }
    }
}
