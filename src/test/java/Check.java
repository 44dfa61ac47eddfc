/** Compares answers with those that are due, and ends a test. */
final class Check {
    private static int wrong = 0;
    private static int done = 0;

    private Check() {
    }

    static void due(String call, long got, long want) {
        done++;
        if (got != want) {
            tellWrong(call + " answered " + got + ", due is " + want);
        }
    }

    static void due(String call, String got, String want) {
        done++;
        if (!got.equals(want)) {
            tellWrong(call + " answered " + got + ", due is " + want);
        }
    }

    static void holds(String what, boolean so) {
        done++;
        if (!so) {
            tellWrong(what + " does not hold");
        }
    }

    private static void tellWrong(String message) {
        wrong++;
        if (wrong <= 40) {
            System.out.println(message);
        }
    }

    static int wrongSoFar() {
        return wrong;
    }

    static int doneSoFar() {
        return done;
    }

    static void end() {
        System.out.println(wrong == 0 ? done + " answers as due" : wrong + " of " + done + " answers not as due");
        if (wrong != 0) {
            System.exit(1);
        }
    }
}
