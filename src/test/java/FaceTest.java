import java.lang.reflect.Constructor;
import java.lang.reflect.Field;
import java.lang.reflect.Method;
import java.lang.reflect.Modifier;
import java.util.Arrays;
import java.util.HashSet;
import java.util.Set;
import java.util.TreeSet;
import java.util.stream.Collectors;

/** The class has the document's face and no other member that can be seen. */
public final class FaceTest {
    private static final String UNKNOWN = "IllegalArgumentException";
    private static final String RANGE = "IndexOutOfBoundsException";
    private static final String STATE = "IllegalStateException";
    private static final String ROOM = "UnsupportedOperationException";

    private static final Set<String> DUE = Set.of(
            line("int act(int, int, int)", UNKNOWN, RANGE, STATE, ROOM),
            line("void finish(int, int)", UNKNOWN, RANGE, STATE),
            line("int call(int)", RANGE, ROOM),
            line("int step(int)", UNKNOWN, STATE),
            line("int run(long, int)", RANGE),
            line("void kill(int)", UNKNOWN, STATE),
            line("void restart(int)", UNKNOWN, STATE),
            line("void lease(int)", RANGE),
            line("int close()"),
            line("int unit(int, int)", UNKNOWN),
            line("int callAt(int, int)", UNKNOWN),
            line("int thread(int, int)", UNKNOWN),
            line("int row(int, int)", UNKNOWN),
            line("int count(int)", UNKNOWN));

    public static void main(String[] args) {
        Class<?> face = ServiceThreads.class;
        Check.same("public", Modifier.isPublic(face.getModifiers()), true);
        Check.same("final", Modifier.isFinal(face.getModifiers()), true);
        Set<String> seen = new HashSet<>();
        Set<String> publicNames = new HashSet<>();
        Set<String> privateNames = new HashSet<>();
        for (Method method : face.getDeclaredMethods()) {
            if (Modifier.isPrivate(method.getModifiers())) {
                privateNames.add(method.getName());
            } else {
                publicNames.add(method.getName());
                seen.add(lineOf(method));
            }
        }
        Check.same("methods", new TreeSet<>(seen), new TreeSet<>(DUE));
        privateNames.retainAll(publicNames);
        Check.same("private methods with a public one's name", privateNames, Set.of());
        for (Field field : face.getDeclaredFields()) {
            Check.same("private " + field.getName(), Modifier.isPrivate(field.getModifiers()), true);
        }
        Constructor<?>[] constructors = face.getDeclaredConstructors();
        Check.same("constructors", constructors.length, 1);
        Check.same("without parameters", constructors[0].getParameterCount(), 0);
        Check.same("public", Modifier.isPublic(constructors[0].getModifiers()), true);
        for (Class<?> inside : face.getDeclaredClasses()) {
            Check.same("static " + inside.getName(), Modifier.isStatic(inside.getModifiers()), true);
            Check.same("hidden " + inside.getName(), Modifier.isPublic(inside.getModifiers()), false);
        }
        Check.end();
    }

    private static String line(String head, String... thrown) {
        return "public " + head + " " + new TreeSet<>(Arrays.asList(thrown));
    }

    private static String lineOf(Method method) {
        String parameters = Arrays.stream(method.getParameterTypes())
                .map(Class::getSimpleName).collect(Collectors.joining(", "));
        TreeSet<String> thrown = Arrays.stream(method.getExceptionTypes())
                .map(Class::getSimpleName).collect(Collectors.toCollection(TreeSet::new));
        return Modifier.toString(method.getModifiers()) + " " + method.getReturnType().getSimpleName()
                + " " + method.getName() + "(" + parameters + ") " + thrown;
    }
}
