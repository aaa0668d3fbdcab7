import java.util.function.Supplier;

/**
 * Counts and prints what is not as due, and tells the exit code. It is public for the lines of README.md, which ReadmeTest
 * loads apart from the tests.
 */
public final class Check {
    private static int wrong = 0;
    private static int asked = 0;
    private static String part = "";

    private Check() {
    }

    static void part(String name) {
        part = name;
    }

    public static void due(String what, Object want, Object got) {
        asked++;
        if (!want.equals(got)) {
            wrong++;
            if (wrong <= 50) {
                System.out.println(part + ": " + what + " answered " + got + ", due is " + want);
            }
        }
    }

    /** The call throws just this exception, and the hall answers all else as before. */
    static void refuses(String what, Class<? extends RuntimeException> want, Bonehall hall, Supplier<Object> call) {
        String before = Scene.look(hall);
        Object got;
        try {
            got = call.get();
        } catch (RuntimeException e) {
            got = e.getClass();
        }
        due(what, want, got);
        due(what + " changes nothing", before, Scene.look(hall));
    }

    static void end(String name) {
        System.out.println(name + ": " + asked + " asked, " + wrong + " wrong");
        if (wrong != 0 || asked == 0) {
            System.exit(1);
        }
    }
}
