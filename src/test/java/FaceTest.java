import java.lang.reflect.Field;
import java.lang.reflect.Method;
import java.lang.reflect.Modifier;
import java.util.TreeSet;

/** The public face: exactly what the document names, and nothing else that can be seen from outside. */
public final class FaceTest {
    private static final String METHODS = "check(int) count(int) drop(int,int) fault() fewest() goal() height(int) "
            + "image(int) left(int,int) needed() put(int) resource() restore(int) say(int) term(int) trial(int) "
            + "uses(int,int) ways(int,int) well() wipe()";
    private static final String FIELDS = "FAULT=-7 FULL=-4 MANY=999999999 NONE=-6 OUTSIDE=-2 STATE=-3 UNKNOWN=-1";

    public static void main(String[] args) throws IllegalAccessException {
        Class<?> face = OnceProver.class;
        Due.is("public", Modifier.isPublic(face.getModifiers()) ? 1 : 0, 1);
        Due.is("final", Modifier.isFinal(face.getModifiers()) ? 1 : 0, 1);
        Due.is("constructors", face.getDeclaredConstructors().length, 1);
        Due.is("public constructors", face.getConstructors().length, 1);
        Due.is("parameters of the constructor", face.getDeclaredConstructors()[0].getParameterCount(), 0);
        Due.same("the methods", methods(face), METHODS);
        Due.same("the constants", fields(face), FIELDS);
        for (Class<?> inside : face.getDeclaredClasses()) {
            Due.is("static: " + inside.getName(), Modifier.isStatic(inside.getModifiers()) ? 1 : 0, 1);
            Due.is("public: " + inside.getName(), Modifier.isPublic(inside.getModifiers()) ? 1 : 0, 0);
        }
        Due.end();
    }

    private static String methods(Class<?> face) {
        TreeSet<String> all = new TreeSet<>();
        for (Method method : face.getDeclaredMethods()) {
            if (Modifier.isPrivate(method.getModifiers())) {
                continue;
            }
            StringBuilder one = new StringBuilder(method.getName()).append('(');
            for (Class<?> parameter : method.getParameterTypes()) {
                one.append(one.charAt(one.length() - 1) == '(' ? "" : ",").append(parameter.getName());
            }
            boolean plain = method.getReturnType() == int.class && method.getModifiers() == Modifier.PUBLIC;
            all.add(one.append(plain ? ")" : ") is not plain").toString());
        }
        return String.join(" ", all);
    }

    private static String fields(Class<?> face) throws IllegalAccessException {
        int constant = Modifier.PUBLIC | Modifier.STATIC | Modifier.FINAL;
        TreeSet<String> all = new TreeSet<>();
        for (Field field : face.getDeclaredFields()) {
            if (!Modifier.isPrivate(field.getModifiers())) {
                boolean plain = field.getType() == int.class && field.getModifiers() == constant;
                all.add(field.getName() + (plain ? "=" + field.getInt(null) : " is not plain"));
            }
        }
        return String.join(" ", all);
    }
}
