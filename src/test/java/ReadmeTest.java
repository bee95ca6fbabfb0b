import java.io.IOException;
import java.lang.reflect.InvocationTargetException;
import java.lang.reflect.Method;
import java.nio.file.Files;
import java.nio.file.Path;
import java.util.regex.Matcher;
import java.util.regex.Pattern;

/** The calls of README.md's example answer what stands behind them, one after the other. */
public final class ReadmeTest {
    private static final Pattern BLOCK = Pattern.compile("```java\n(.*?)```", Pattern.DOTALL);
    // A call, and behind it a comment that begins with the answer or, of a void one, with anything else.
    private static final Pattern CALL = Pattern.compile("x\\.(\\w+)\\(([^)]*)\\);\\s*// (?:(-?\\d+): )?.*");

    public static void main(String[] args) throws IOException {
        Matcher block = BLOCK.matcher(Files.readString(Path.of("README.md")));
        boolean isThere = block.find();
        Check.same("README.md has an example", isThere, true);
        if (isThere) {
            playAll(block.group(1).split("\n"));
        }
        Check.end();
    }

    private static void playAll(String[] lines) {
        Check.same("the first line", lines[0], "ServiceThreads x = new ServiceThreads();");
        ServiceThreads x = new ServiceThreads();
        for (int i = 1; i < lines.length; i++) {
            Matcher call = CALL.matcher(lines[i]);
            boolean isCall = call.matches();
            Check.same("a call with a comment: " + lines[i], isCall, true);
            if (isCall) {
                Object due = call.group(3) == null ? null : Integer.valueOf(call.group(3));
                Check.same(lines[i], answer(x, call.group(1), call.group(2).split(", *")), due);
            }
        }
    }

    private static Object answer(ServiceThreads x, String name, String[] written) {
        for (Method method : ServiceThreads.class.getMethods()) {
            if (method.getName().equals(name)) {
                return answer(x, method, written);
            }
        }
        return "no method " + name;
    }

    private static Object answer(ServiceThreads x, Method method, String[] written) {
        Class<?>[] types = method.getParameterTypes();
        Object[] values = new Object[types.length];
        for (int i = 0; i < types.length && i < written.length; i++) {
            long value = Long.decode(written[i].replace("_", "").replace("L", ""));
            values[i] = types[i] == long.class ? (Object) value : (Object) (int) value;
        }
        try {
            return method.invoke(x, values);
        } catch (InvocationTargetException e) {
            return e.getCause();
        } catch (IllegalAccessException e) {
            return e;
        }
    }
}
