/** Counts the answers that are not as due, and ends a test. */
final class Due {
    private static int wrong = 0;
    private static int seen = 0;
    private static String under = "";

    private Due() {
    }

    /** What the answers that follow are looked at for. */
    static void under(String what) {
        under = what.isEmpty() ? "" : "\"" + what + "\" ";
    }

    static void is(String call, long got, long want) {
        seen++;
        if (got != want) {
            wrong++;
            if (wrong <= 50) {
                System.out.println(under + call + " answered " + got + ", due is " + want);
            }
        }
    }

    static int seen() {
        return seen;
    }

    static void end() {
        System.out.println(seen + " answers looked at, " + wrong + " not as due");
        if (wrong != 0 || seen == 0) {
            System.exit(1);
        }
    }
}
