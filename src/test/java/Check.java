/** What the tests share: due answers are compared, and a test ends with exit code 1 if one was not as due. */
final class Check {
    private static int wrong = 0;
    private static int seen = 0;

    private Check() {
    }

    static void due(String call, long got, long want) {
        seen++;
        if (got != want) {
            wrong++;
            if (wrong <= 50) {
                System.out.println(call + " answered " + got + ", due is " + want);
            }
        }
    }

    static void holds(String what, boolean so) {
        seen++;
        if (!so) {
            wrong++;
            System.out.println("does not hold: " + what);
        }
    }

    static void end() {
        System.out.println(wrong == 0 ? seen + " answers are as due" : wrong + " of " + seen + " answers are not as due");
        if (wrong != 0 || seen == 0) {
            System.exit(1);
        }
    }
}
