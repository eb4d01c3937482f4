/** Compares answers with those that are due, prints the ones that differ, and ends a test with the exit code 1 if one did. */
final class Due {
    private int compared = 0;
    private int wrong = 0;

    void same(String call, long got, long want) {
        same(call, Long.toString(got), Long.toString(want));
    }

    void same(String call, boolean got, boolean want) {
        same(call, Boolean.toString(got), Boolean.toString(want));
    }

    void same(String call, String got, String want) {
        compared++;
        if (!got.equals(want)) {
            wrong++;
            System.out.println(call + " answered " + got + ", due is " + want);
        }
    }

    int wrong() {
        return wrong;
    }

    void end() {
        System.out.println(compared + " answers, " + wrong + " wrong");
        if (wrong > 0) {
            System.exit(1);
        }
    }
}
