/** Makes objects that stand ready for a test, so that the test can begin with what it is about. */
final class Made {
    private Made() { }

    /** Stages 0 to 2 are SOURCE 0, SOURCE 1 and INTERVAL 5; from 3 on each is (kind, a, b). No subscription. */
    static TimedStreams stages(int... more) {
        TimedStreams x = new TimedStreams();
        x.stage(0, 0, 0);
        x.stage(0, 1, 0);
        x.stage(1, 5, 0);
        for (int i = 0; i < more.length; i += 3) {
            x.stage(more[i], more[i + 1], more[i + 2]);
        }
        return x;
    }

    /** The same, and 0 subscribes to the last stage, with more demand than it can need. */
    static TimedStreams with(int... more) {
        TimedStreams x = stages(more);
        x.subscribe(0, 2 + more.length / 3);
        x.request(0, Long.MAX_VALUE);
        return x;
    }

    static void emit(TimedStreams x, int s, int... items) {
        for (int v : items) {
            x.emit(s, v);
        }
    }

    /** Sends the items 1, 2, .. most. */
    static void emitUpTo(TimedStreams x, int s, int most) {
        for (int v = 1; v <= most; v++) {
            x.emit(s, v);
        }
    }
}
