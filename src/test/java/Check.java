import java.util.Objects;

/** Tells every answer that is not the one that is due; end() makes the test fail if there was one. */
final class Check {
    private static int wrong = 0;
    private static String sentence = "";

    private Check() {}

    /** A test of one sentence of the document; what it finds wrong is told behind the sentence. */
    static void sentence(String text, Runnable test) {
        sentence = "\"" + text + "\": ";
        try {
            test.run();
        } catch (RuntimeException e) {
            tell("the test was cut short by " + e);
        }
        sentence = "";
    }

    static void same(String what, Object got, Object due) {
        if (!Objects.equals(got, due)) {
            tell(what + " answered " + got + ", due is " + due);
        }
    }

    static void refuses(String what, Class<? extends RuntimeException> due, Runnable call) {
        same(what, thrownBy(call), due);
    }

    static Class<?> thrownBy(Runnable call) {
        try {
            call.run();
            return null;
        } catch (RuntimeException e) {
            return e.getClass();
        }
    }

    static void end() {
        if (wrong != 0) {
            System.out.println(wrong + " answers are not as due");
            System.exit(1);
        }
    }

    private static void tell(String line) {
        wrong++;
        System.out.println(sentence + line);
    }
}
