package support;

/** Counts answers that are not as due, and prints them. */
public final class Check {
    public interface Call {
        long answer();
    }

    private static int asked;
    private static int wrong;
    private static String about = "";

    private Check() {
    }

    /** What the next answers are about: it is printed with each that is wrong. */
    public static void about(String text) {
        about = text;
    }

    public static void due(String call, long want, long got) {
        asked++;
        if (want != got) {
            wrong++;
            System.out.println(about + ": " + call + " answered " + got + ", due is " + want);
        }
    }

    public static void due(String call, long want, Call asks) {
        due(call, Long.toString(want), outcome(asks));
    }

    public static void due(String call, String want, String got) {
        asked++;
        if (!want.equals(got)) {
            wrong++;
            System.out.println(about + ": " + call + " answered " + got + ", due is " + want);
        }
    }

    public static void refused(String call, Class<? extends RuntimeException> want, Call asks) {
        due(call, "throws " + want.getSimpleName(), outcome(asks));
    }

    /** The answer as a text, or which exception came: of exactly which class, so that none of the machine's passes. */
    public static String outcome(Call asks) {
        try {
            return Long.toString(asks.answer());
        } catch (RuntimeException e) {
            return "throws " + e.getClass().getSimpleName();
        }
    }

    public static int wrongSoFar() {
        return wrong;
    }

    public static void end() {
        System.out.println(asked + " answers looked at, " + wrong + " not as due");
        if (wrong != 0) {
            System.exit(1);
        }
    }
}
