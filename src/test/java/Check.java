/** Counts and prints the answers that are not as due. */
final class Check {
    private static int wrong = 0;
    private static int seen = 0;
    private static String within = "";

    private Check() {
    }

    /** What is printed before each answer that is not as due. */
    static void within(String test) {
        within = test + ": ";
    }

    static void due(String what, long got, long want) {
        seen++;
        if (got != want) {
            wrong++;
            if (wrong <= 50) {
                System.out.println(within + what + " answered " + got + ", due is " + want);
            }
        }
    }

    static void isTrue(String what, boolean holds) {
        due(what, holds ? 1 : 0, 1);
    }

    static int wrong() {
        return wrong;
    }

    static void end() {
        System.out.println(seen + " answers seen, " + wrong + " not as due");
        if (wrong != 0) {
            System.exit(1);
        }
    }
}
