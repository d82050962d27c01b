/** Counts the answers that are not as due, and ends a test. */
final class Due {
    private static int wrong = 0;
    private static int seen = 0;

    private Due() {
    }

    static void is(String call, long got, long want) {
        seen++;
        if (got != want) {
            wrong++;
            if (wrong <= 50) {
                System.out.println(call + " answered " + got + ", due is " + want);
            }
        }
    }

    static void end() {
        System.out.println(seen + " answers looked at, " + wrong + " not as due");
        if (wrong != 0 || seen == 0) {
            System.exit(1);
        }
    }
}
