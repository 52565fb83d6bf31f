/** Counts the answers that are not due, and ends a test with exit code 1 if there was one. */
final class Check {
    private static int checked = 0;
    private static int wrong = 0;

    private Check() {
    }

    static void due(String what, long got, long want) {
        checked++;
        if (got != want) {
            wrong++;
            System.out.println(what + " answered " + got + ", due is " + want);
        }
    }

    static void holds(String what, boolean asDue) {
        checked++;
        if (!asDue) {
            wrong++;
            System.out.println(what + " does not hold");
        }
    }

    static boolean isAllRight() {
        return wrong == 0;
    }

    static void end() {
        System.out.println(checked + " answers, " + wrong + " of them not as due");
        if (wrong != 0) {
            System.exit(1);
        }
    }
}
