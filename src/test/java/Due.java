/** Compares answers with those that are due, prints the ones that differ, and ends a test with the exit code 1 if one did. */
final class Due {
    private String sentence = "";
    private int compared = 0;
    private int wrong = 0;

    /** The words of the document that the answers from here on belong to; printed with those that differ. */
    void sentence(String words) {
        sentence = "\"" + words + "\" ";
    }

    void same(String call, long got, long want) {
        same(call, Long.toString(got), Long.toString(want));
    }

    void same(String call, boolean got, boolean want) {
        same(call, Boolean.toString(got), Boolean.toString(want));
    }

    void same(String call, String got, String want) {
        compared++;
        if (!got.equals(want)) {
            wrong++;
            System.out.println(sentence + call + " answered " + got + ", due is " + want);
        }
    }

    /** What subscription `id` answers, as Tell.told puts it. */
    void told(String where, TimedStreams x, int id, String want) {
        same(where, Tell.told(x, id), want);
    }

    /** What subscription 0 answers, without what waits and the demand. */
    void items(String where, TimedStreams x, String want) {
        same(where, Tell.items(x, 0), want);
    }

    int wrong() {
        return wrong;
    }

    void end() {
        System.out.println(compared + " answers, " + wrong + " wrong");
        if (wrong > 0) {
            System.exit(1);
        }
    }
}
