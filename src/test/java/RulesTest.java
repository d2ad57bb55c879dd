import java.io.IOException;
import java.lang.reflect.Field;
import java.lang.reflect.Method;
import java.lang.reflect.Modifier;
import java.nio.file.Files;
import java.nio.file.Path;
import java.util.Set;
import java.util.TreeSet;
import java.util.regex.Matcher;
import java.util.regex.Pattern;

/** Those rules of LANGUAGE.md that can be seen from the text of the program. Run from the project's directory. */
public final class RulesTest {
    private static final Set<String> LIBRARY = Set.of("Arrays", "Integer", "Long", "Math", "String", "StringBuilder",
            "System", "List", "ArrayList", "Iterator", "Iterable", "Comparable");
    private static final int LINES_OF_A_METHOD = 60, PARAMETERS = 7, FIELDS = 20;

    public static void main(String[] args) throws IOException {
        String source = Files.readString(Path.of("src/main/java/OnceProver.java"));
        String code = source.replaceAll("(?s)/\\*.*?\\*/", "").replaceAll("//[^\n]*", "").replaceAll("'(\\\\.|[^'\\\\])'", "' '");
        Due.is("signs that are not ASCII", source.chars().filter(sign -> sign > 126).count(), 0);
        for (String word : "throw throws try catch synchronized assert package protected float double volatile native".split(" ")) {
            Due.is("the word " + word, times(code, "\\b" + word + "\\b"), 0);
        }
        for (String sign : new String[] {"->", "::", "@", "\""}) {
            Due.is("the sign " + sign, times(code, Pattern.quote(sign)), 0);
        }
        Due.is("names that end in Exact", times(code, "\\w+Exact\\b"), 0);
        Due.is("imports from elsewhere", times(code, "import (?!java\\.util\\.(Arrays|ArrayList|List|Iterator);)"), 0);
        Due.is("static fields that are not final", times(code, "static (?!final|int|long|boolean|char)\\w+ \\w+( =|;)"), 0);
        Due.is("static blocks", times(code, "static \\{"), 0);
        classes(code);
        privateNames(code);
        methodLengths(source);
        members(OnceProver.class);
        for (Class<?> inside : OnceProver.class.getDeclaredClasses()) {
            members(inside);
        }
        Due.end();
    }

    private static int times(String code, String pattern) {
        Matcher matcher = Pattern.compile(pattern).matcher(code);
        int times = 0;
        while (matcher.find()) {
            times++;
        }
        return times;
    }

    private static void classes(String code) {
        Set<String> own = names(code, "\\bclass (\\w+)");
        Due.is("more than twelve classes", Math.max(12, own.size()), 12);
        for (String name : names(code, "\\b([A-Z][a-z]\\w*)\\b")) {
            Due.is("a class from elsewhere: " + name, own.contains(name) || LIBRARY.contains(name) ? 1 : 0, 1);
        }
    }

    private static void privateNames(String code) {
        Set<String> open = names(code, "(?m)^    public int (\\w+)\\(");
        Due.is("public methods", open.size(), 20);
        for (String name : names(code, "(?m)^(?!    public )\\s+(?:private |static )*[\\w\\[\\]]+ (\\w+)\\([^)]*\\) \\{")) {
            Due.is("a hidden method with a public name: " + name, open.contains(name) ? 1 : 0, 0);
        }
    }

    private static Set<String> names(String code, String pattern) {
        Set<String> names = new TreeSet<>();
        Matcher matcher = Pattern.compile(pattern).matcher(code);
        while (matcher.find()) {
            names.add(matcher.group(1));
        }
        return names;
    }

    private static void members(Class<?> one) {
        int fields = 0;
        for (Field field : one.getDeclaredFields()) {
            boolean isStatic = Modifier.isStatic(field.getModifiers());
            fields += isStatic ? 0 : 1;
            Due.is("static, but not final: " + field, isStatic && !Modifier.isFinal(field.getModifiers()) ? 1 : 0, 0);
            Due.is("static, but no number: " + field, isStatic && !field.getType().isPrimitive() ? 1 : 0, 0);
            Class<?> part = field.getType().getComponentType();
            Due.is("rows of rows: " + field, part != null && part.isArray() && !part.getComponentType().isPrimitive() ? 1 : 0, 0);
        }
        Due.is("more than " + FIELDS + " fields: " + one, Math.max(FIELDS, fields), FIELDS);
        for (Method method : one.getDeclaredMethods()) {
            Due.is("more than " + PARAMETERS + " parameters: " + method,
                    Math.max(PARAMETERS, method.getParameterCount()), PARAMETERS);
            Due.is("made by the compiler: " + method, method.isSynthetic() ? 1 : 0, 0);
        }
        Due.is("classes inside a class inside", one == OnceProver.class ? 0 : one.getDeclaredClasses().length, 0);
    }

    /** A method begins with a line that ends in ") {" and ends with a brace of the same indent. */
    private static void methodLengths(String source) {
        String[] lines = source.split("\n");
        for (int i = 0; i < lines.length; i++) {
            if (lines[i].matches("( {4}| {8})[\\w\\[\\], ]+\\([^;]*\\) \\{")) {
                String end = lines[i].replaceAll("\\S.*", "") + "}";
                int last = i;
                while (last < lines.length - 1 && !lines[last].equals(end)) {
                    last++;
                }
                Due.is("too long: " + lines[i].trim(), last - i + 1 > LINES_OF_A_METHOD ? 1 : 0, 0);
            }
        }
    }
}
