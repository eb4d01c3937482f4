/** Puts what a subscription answers into one line, so that a test can show what is due at a glance. */
final class Tell {
    private Tell() { }

    /** Status, then the delivered items (at most 16, the oldest first) as time:item, then what waits and the demand. */
    static String told(TimedStreams x, int id) {
        StringBuilder line = new StringBuilder();
        switch (x.status(id)) {
            case TimedStreams.ACTIVE -> line.append("ACTIVE");
            case TimedStreams.DONE -> line.append("DONE");
            case TimedStreams.FAILED -> line.append("FAILED ").append(x.code(id));
            case TimedStreams.CANCELLED -> line.append("CANCELLED");
            case TimedStreams.NONE -> line.append("NONE");
            default -> line.append("status ").append(x.status(id));
        }
        int n = Math.min(16, x.delivered(id));
        for (int k = n - 1; k >= 0; k--) {
            long item = x.item(id, k);
            line.append(' ').append(item >> 32).append(':').append((int) item);
        }
        if (x.status(id) == TimedStreams.ACTIVE) {
            int pending = x.pending(id);
            line.append(" +").append(pending >> 4).append('/').append(pending & 15);
        }
        return line.toString();
    }

    /** The same without what waits and the demand, for subscriptions with more demand than they need. */
    static String items(TimedStreams x, int id) {
        String line = told(x, id);
        return line.contains(" +") ? line.substring(0, line.indexOf(" +")) : line;
    }
}
