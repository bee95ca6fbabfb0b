import java.io.IOException;
import java.lang.reflect.Executable;
import java.lang.reflect.Field;
import java.lang.reflect.Modifier;
import java.nio.file.Files;
import java.nio.file.Path;
import java.util.ArrayList;
import java.util.Arrays;
import java.util.List;
import java.util.Set;
import java.util.TreeSet;
import java.util.regex.Matcher;
import java.util.regex.Pattern;

/**
 * The rules of LANGUAGE.md as far as a test can see them in the class and in its text. What the class
 * has no need of is refused here outright, even where the rules leave it (loops other than counted
 * ones, try): then nothing about it has to be looked at.
 */
public final class LanguageTest {
    private static final Path SOURCE = Path.of("src/main/java/ServiceThreads.java");

    private static final Set<String> LIBRARY = Set.of("Arrays.fill", "Math.max");
    private static final Set<String> EXCEPTIONS = Set.of("IllegalArgumentException",
            "IndexOutOfBoundsException", "IllegalStateException", "UnsupportedOperationException");
    private static final Set<String> WORDS_WITHOUT_USE = Set.of("package", "while", "do", "try", "catch",
            "finally", "synchronized", "assert", "instanceof", "volatile", "transient", "native",
            "strictfp", "protected", "abstract", "interface", "enum", "record", "var", "null", "this",
            "super", "float", "double");

    private static final int MOST_PARAMETERS = 7;
    private static final int MOST_LINES_OF_A_METHOD = 60;
    private static final int MOST_CLASSES = 12;
    private static final int MOST_FIELDS = 20;

    public static void main(String[] args) throws IOException {
        String text = Files.readString(SOURCE);
        String code = withoutCommentsAndTexts(text);
        noOtherCharacters(text);
        onlyWordsInUse(code);
        onlyTheLibraryInUse(code);
        onlyNamedExceptions(code);
        onlyCountedLoops(code);
        onlyShortMethods(code);
        everySwitchHasADefault(code);
        List<Class<?>> classes = new ArrayList<>(List.of(ServiceThreads.class));
        classes.addAll(Arrays.asList(ServiceThreads.class.getDeclaredClasses()));
        Check.same("rule 11: at most twelve classes", classes.size() <= MOST_CLASSES, true);
        for (Class<?> one : classes) {
            fieldsOf(one);
            parametersOf(one);
        }
        Check.end();
    }

    private static String withoutCommentsAndTexts(String text) {
        String bare = Pattern.compile("/\\*.*?\\*/", Pattern.DOTALL).matcher(text).replaceAll("");
        return bare.replaceAll("//[^\n]*", "").replaceAll("\"[^\"\n]*\"", "\"\"");
    }

    private static void noOtherCharacters(String text) {
        Check.same("rule 3: characters 0 to 255 alone", text.chars().allMatch(c -> c <= 255), true);
    }

    private static void onlyWordsInUse(String code) {
        Set<String> words = found(code, "\\b[a-z]+\\b");
        words.retainAll(WORDS_WITHOUT_USE);
        Check.same("rules 2, 3, 6, 9: words that the class has no need of", words, Set.of());
        Check.same("rule 2: no lambda, no method reference", found(code, "->|::"), Set.of());
        Check.same("rule 3: arrays of one dimension", found(code, "\\]\\s*\\["), Set.of());
        Check.same("rule 5: no static initialiser", found(code, "static\\s*\\{"), Set.of());
        Check.same("rule 10: no joining of texts by +", found(code, "\"\\s*\\+|\\+\\s*\""), Set.of());
        Check.same("imports", found(code, "import [^;]*;"), Set.of("import java.util.Arrays;"));
    }

    /** Every name that begins as a class does and is none of the file's own. */
    private static void onlyTheLibraryInUse(String code) {
        String withoutImports = code.replaceAll("import [^;]*;", "");
        Set<String> used = found(withoutImports, "\\b[A-Z][a-z]\\w*(?:\\.\\w+)?");
        used.removeAll(LIBRARY);
        used.removeAll(EXCEPTIONS);
        used.remove("ServiceThreads");
        for (Class<?> own : ServiceThreads.class.getDeclaredClasses()) {
            used.remove(own.getSimpleName());
        }
        Check.same("rule 4: the library beside what is known to be allowed", used, Set.of());
    }

    private static void onlyNamedExceptions(String code) {
        String names = String.join("|", EXCEPTIONS);
        String rest = code.replaceAll("throw new (" + names + ")\\(\"\"\\);", "");
        Check.same("rule 6: throws in another form", found(rest, "\\bthrow\\b[^;]*;"), Set.of());
        for (String body : bodiesOf(code, "(?:public )?[A-Z]\\w*\\(\\) \\{")) {
            Check.same("rule 6: no throw in a constructor", body.contains("throw"), false);
        }
    }

    /** A counter goes up by one to a bound, and no line of the loop sets it. */
    private static void onlyCountedLoops(String code) {
        Matcher heads = Pattern.compile("\\bfor\\b([^{]*)\\{").matcher(code);
        while (heads.find()) {
            String head = heads.group(1).trim();
            Matcher counted = Pattern.compile("\\(int (\\w+) = [^;]+; \\1 < [^;]+; \\1\\+\\+\\)").matcher(head);
            boolean isCounted = counted.matches();
            Check.same("rule 9: a counted loop: for " + head, isCounted, true);
            if (isCounted) {
                String body = blockFrom(code, heads.end() - 1);
                String counter = counted.group(1);
                boolean isSet = Pattern.compile("\\b" + counter + "\\s*(=[^=]|[-+*/]=|\\+\\+|--)").matcher(body).find();
                Check.same("rule 9: the loop sets its counter: for " + head, isSet, false);
            }
        }
    }

    private static void onlyShortMethods(String code) {
        for (String body : bodiesOf(code, "\\)[\\w\\s,]*\\{")) {
            long lines = body.lines().count();
            Check.same("rule 11: a short method:" + body.lines().skip(1).findFirst().orElse(""),
                    lines <= MOST_LINES_OF_A_METHOD, true);
        }
    }

    private static void everySwitchHasADefault(String code) {
        for (String body : bodiesOf(code, "switch \\(\\w+\\) \\{")) {
            Check.same("a switch that knows what to do with any number", body.contains("default:"), true);
        }
    }

    private static void fieldsOf(Class<?> one) {
        int own = 0;
        Set<Class<?>> numbers = Set.of(int.class, long.class, boolean.class, int[].class, boolean[].class);
        for (Field field : one.getDeclaredFields()) {
            String name = one.getSimpleName() + "." + field.getName();
            boolean isKnown = numbers.contains(field.getType()) || isOwn(field.getType());
            Check.same("rule 3: the type of " + name, isKnown, true);
            if (Modifier.isStatic(field.getModifiers())) {
                Check.same("rule 5: a constant: " + name, Modifier.isFinal(field.getModifiers()), true);
                Check.same("rule 5: a number: " + name, field.getType(), int.class);
            } else {
                own++;
            }
        }
        Check.same("rule 11: at most twenty fields in " + one.getSimpleName(), own <= MOST_FIELDS, true);
    }

    private static void parametersOf(Class<?> one) {
        List<Executable> all = new ArrayList<>(Arrays.asList((Executable[]) one.getDeclaredConstructors()));
        all.addAll(Arrays.asList((Executable[]) one.getDeclaredMethods()));
        for (Executable method : all) {
            boolean few = method.getParameterCount() <= MOST_PARAMETERS;
            Check.same("rule 11: parameters of " + method.getName(), few, true);
        }
    }

    private static boolean isOwn(Class<?> type) {
        return type.getDeclaringClass() == ServiceThreads.class;
    }

    private static Set<String> found(String code, String pattern) {
        Set<String> all = new TreeSet<>();
        Matcher matcher = Pattern.compile(pattern).matcher(code);
        while (matcher.find()) {
            all.add(matcher.group());
        }
        return all;
    }

    /** The blocks whose opening brace ends what the pattern finds. */
    private static List<String> bodiesOf(String code, String pattern) {
        List<String> bodies = new ArrayList<>();
        Matcher matcher = Pattern.compile(pattern).matcher(code);
        while (matcher.find()) {
            bodies.add(blockFrom(code, matcher.end() - 1));
        }
        Check.same("blocks behind " + pattern, bodies.isEmpty(), false);
        return bodies;
    }

    private static String blockFrom(String code, int brace) {
        int depth = 0;
        for (int i = brace; i < code.length(); i++) {
            depth += code.charAt(i) == '{' ? 1 : 0;
            depth -= code.charAt(i) == '}' ? 1 : 0;
            if (depth == 0) {
                return code.substring(brace, i + 1);
            }
        }
        return code.substring(brace);
    }
}
