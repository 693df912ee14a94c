/** Compares answers with those that are due, prints each that differs, and ends the test. */
final class Due {
    private static int compared = 0;
    private static int wrong = 0;

    private Due() {
    }

    static void equal(String call, long got, long due) {
        compared++;
        if (got != due) {
            wrong++;
            System.out.println(call + " answered " + got + ", due is " + due);
        }
    }

    static void equal(String call, boolean got, boolean due) {
        equal(call, got ? 1L : 0L, due ? 1L : 0L);
    }

    static boolean anyWrong() {
        return wrong != 0;
    }

    static void end() {
        System.out.println(compared + " answers looked at, " + wrong + " not as due");
        if (wrong != 0 || compared == 0) {
            System.exit(1);
        }
    }
}
