/** Each kind of stage: what stream comes of it, at which moments, and what it does with ends. */
public final class KindsTest {
    private static final Due due = new Due();
    private static final int MOST = Integer.MAX_VALUE;

    public static void main(String[] args) {
        source();
        intervalAndJust();
        addAboveScan();
        takeAndSkip();
        changedBufferCount();
        errorsPass();
        delay();
        delayFull();
        quiet();
        first();
        sample();
        limit();
        merge();
        zip();
        zipFull();
        latest();
        concat();
        resume();
        beginningInTime();
        momentsAtOneTime();
        due.end();
    }

    private static void source() {
        TimedStreams x = new TimedStreams();
        x.stage(0, 2, 0);
        x.emit(2, 1);
        x.subscribe(0, 0);
        x.request(0, 9);
        x.emit(2, 2);
        x.emit(1, 3);
        due.items("SOURCE: later calls to it", x, "ACTIVE 0:2");
        x.complete(2);
        due.items("SOURCE: its end", x, "DONE 0:2");
    }

    private static void intervalAndJust() {
        TimedStreams x = new TimedStreams();
        x.stage(1, 50, 0);
        x.stage(2, -3, 0);
        x.advance(7);
        x.subscribe(0, 0);
        x.request(0, 9);
        x.advance(49);
        due.items("INTERVAL: not before", x, "ACTIVE");
        x.advance(144);
        due.items("INTERVAL: from its beginning", x, "ACTIVE 57:0 107:1 157:2");
        x.subscribe(1, 1);
        due.same("JUST: the item waits", Tell.told(x, 1), "ACTIVE +1/0");
        x.request(1, 1);
        due.same("JUST: then COMPLETE", Tell.told(x, 1), "DONE 200:-3");
    }

    private static void addAboveScan() {
        TimedStreams x = Made.with(3, 0, MOST);
        Made.emit(x, 0, 0, 1, -1);
        due.items("ADD: wraps", x, "ACTIVE 0:2147483647 0:-2147483648 0:2147483646");
        x = Made.with(4, 0, 2);
        Made.emit(x, 0, 1, 2, 3, -9, MOST);
        due.items("ABOVE: greater only", x, "ACTIVE 0:3 0:2147483647");
        x = Made.with(5, 0, 10);
        Made.emit(x, 0, 1, 2, -4, MOST);
        due.items("SCAN: wraps", x, "ACTIVE 0:11 0:13 0:9 0:-2147483640");
        x.complete(0);
        due.items("SCAN: COMPLETE", x, "DONE 0:11 0:13 0:9 0:-2147483640");
    }

    private static void takeAndSkip() {
        TimedStreams x = Made.with(6, 0, 2);
        Made.emit(x, 0, 1);
        due.items("TAKE: not yet", x, "ACTIVE 0:1");
        Made.emit(x, 0, 2, 3);
        due.items("TAKE: COMPLETE behind the last", x, "DONE 0:1 0:2");
        x = Made.with(6, 0, 2);
        Made.emit(x, 0, 1);
        x.complete(0);
        due.items("TAKE: COMPLETE before", x, "DONE 0:1");
        x = Made.with(6, 0, 1);
        Made.emit(x, 0, 8);
        x.fail(0, 1);
        due.items("TAKE: what is behind does not matter", x, "DONE 0:8");
        x = Made.with(7, 0, 2);
        Made.emit(x, 0, 1, 2, 3, 4);
        due.items("SKIP: without the first", x, "ACTIVE 0:3 0:4");
        x = Made.with(7, 0, 0);
        Made.emit(x, 0, 1);
        due.items("SKIP 0: all", x, "ACTIVE 0:1");
        x = Made.with(7, 0, 8);
        Made.emit(x, 0, 1, 2, 3, 4, 5, 6, 7, 8);
        x.complete(0);
        due.items("SKIP 8: none of eight", x, "DONE");
    }

    private static void changedBufferCount() {
        TimedStreams x = Made.with(8, 0, 0);
        Made.emit(x, 0, 0, 0, 1, 1, 0, 0, 2);
        due.items("CHANGED: the one before of X", x, "ACTIVE 0:0 0:1 0:0 0:2");
        x = Made.with(9, 0, 2);
        Made.emit(x, 0, 1, 2, MOST, 1, 5);
        due.items("BUFFER: wraps", x, "ACTIVE 0:3 0:-2147483648");
        x.complete(0);
        due.items("BUFFER: what is left", x, "DONE 0:3 0:-2147483648 0:5");
        x = Made.with(9, 0, 2);
        Made.emit(x, 0, 1, 2);
        x.complete(0);
        due.items("BUFFER: nothing is left", x, "DONE 0:3");
        x = Made.with(9, 0, 5);
        Made.emit(x, 0, 1, 1, 1);
        x.advance(3);
        Made.emit(x, 0, 1);
        x.advance(3);
        Made.emit(x, 0, 1);
        due.items("BUFFER: at the moment of the last", x, "ACTIVE 6:5");
        x = Made.with(10, 0, 0);
        Made.emit(x, 0, 9, 9, 9);
        due.items("COUNT: no items", x, "ACTIVE");
        x.advance(2);
        x.complete(0);
        due.items("COUNT: before COMPLETE", x, "DONE 2:3");
        x = Made.with(10, 0, 0);
        x.complete(0);
        due.items("COUNT: of nothing", x, "DONE 0:0");
    }

    private static void errorsPass() {
        for (int kind = 3; kind <= 15; kind++) {
            TimedStreams x = Made.with(kind, 0, 3);
            x.fail(0, 2);
            due.items("ERROR passes kind " + kind, x, "FAILED 2");
        }
        for (int kind = 16; kind <= 18; kind++) {
            for (int s = 0; s < 2; s++) {
                TimedStreams x = Made.with(kind, 0, 1);
                x.emit(1 - s, 4);
                x.fail(s, 3);
                due.same("ERROR of either, kind " + kind, Tell.told(x, 0), kind == 16 ? "FAILED 3 0:4" : "FAILED 3");
            }
        }
        TimedStreams x = Made.with(9, 0, 3);
        Made.emit(x, 0, 1, 1);
        x.fail(0, 1);
        due.items("BUFFER: not before an ERROR", x, "FAILED 1");
        x = Made.with(10, 0, 0);
        Made.emit(x, 0, 1, 1);
        x.fail(0, 1);
        due.items("COUNT: not before an ERROR", x, "FAILED 1");
    }

    private static void delay() {
        TimedStreams x = Made.with(11, 0, 3);
        Made.emit(x, 0, 1, 2);
        x.advance(1);
        Made.emit(x, 0, 3);
        x.complete(0);
        x.advance(1);
        due.items("DELAY: not yet", x, "ACTIVE");
        x.advance(1);
        due.items("DELAY: in their order", x, "ACTIVE 3:1 3:2");
        x.advance(1);
        due.items("DELAY: COMPLETE too, behind the item", x, "DONE 3:1 3:2 4:3");
        x = Made.with(11, 0, 3);
        Made.emit(x, 0, 1);
        x.advance(2);
        Made.emit(x, 0, 2);
        x.advance(1);
        x.fail(0, 4);
        due.items("DELAY: an ERROR at its moment, what is later is gone", x, "FAILED 4 3:1");
        x = Made.with(15, 0, 5, 11, 3, 5);
        Made.emit(x, 0, 6);
        x.advance(4);
        due.items("DELAY over LIMIT: not yet", x, "ACTIVE");
        x.advance(1);
        due.items("DELAY: an ERROR at the same time by a part before it", x, "FAILED 9");
    }

    private static void delayFull() {
        TimedStreams x = Made.with(11, 0, 2);
        Made.emit(x, 0, 1, 2, 3, 4, 5, 6, 7);
        x.advance(1);
        Made.emit(x, 0, 8);
        x.advance(1);
        due.items("DELAY: seven have come", x, "ACTIVE 2:1 2:2 2:3 2:4 2:5 2:6 2:7");
        Made.emit(x, 0, 9, 10, 11, 12, 13, 14, 15);
        due.items("DELAY: eight wait", x, "ACTIVE 2:1 2:2 2:3 2:4 2:5 2:6 2:7");
        Made.emit(x, 0, 16);
        due.items("DELAY: a ninth", x, "FAILED 8 2:1 2:2 2:3 2:4 2:5 2:6 2:7");
        x = Made.with(11, 0, 2);
        Made.emit(x, 0, 1, 2, 3, 4, 5, 6, 7, 8);
        x.complete(0);
        x.advance(2);
        due.items("DELAY: COMPLETE is no ninth item", x, "DONE 2:1 2:2 2:3 2:4 2:5 2:6 2:7 2:8");
        x = Made.with(11, 0, 5, 16, 3, 0, 11, 4, 5);
        Made.emit(x, 0, 1, 2, 3, 4);
        x.advance(4);
        Made.emit(x, 0, 5, 6, 7);
        due.items("DELAY: seven wait in the outer one", x, "ACTIVE");
        x.advance(1);
        due.items("DELAY: the inner one's come first, the ninth of them fails", x, "FAILED 8");
    }

    private static void quiet() {
        TimedStreams x = Made.with(12, 0, 3);
        Made.emit(x, 0, 1);
        x.advance(2);
        Made.emit(x, 0, 2);
        x.advance(2);
        due.items("QUIET: another one came", x, "ACTIVE");
        x.advance(1);
        Made.emit(x, 0, 3);
        due.items("QUIET: a call at the same time is not before", x, "ACTIVE 5:2");
        x.advance(1);
        x.complete(0);
        due.items("QUIET: before COMPLETE the one that waits", x, "DONE 5:2 6:3");
        x = Made.with(12, 0, 3);
        Made.emit(x, 0, 1);
        x.advance(3);
        x.complete(0);
        due.items("QUIET: nothing waits", x, "DONE 3:1");
        x = Made.with(12, 0, 3);
        Made.emit(x, 0, 1);
        x.fail(0, 2);
        x.advance(9);
        due.items("QUIET: gone with an ERROR", x, "FAILED 2");
        x = Made.with(12, 2, 5, 6, 3, 1);
        x.advance(60);
        due.items("QUIET: an item at the same time by a part before it", x, "ACTIVE");
        x = Made.with(12, 2, 4);
        x.advance(16);
        due.items("QUIET: each", x, "ACTIVE 9:0 14:1");
    }

    private static void first() {
        TimedStreams x = Made.with(13, 0, 3);
        Made.emit(x, 0, 1, 2);
        x.advance(2);
        Made.emit(x, 0, 3);
        x.advance(1);
        Made.emit(x, 0, 4, 5);
        x.advance(2);
        Made.emit(x, 0, 6);
        x.advance(1);
        Made.emit(x, 0, 7);
        due.items("FIRST: counts from what was passed on", x, "ACTIVE 0:1 3:4 6:7");
        x.complete(0);
        due.items("FIRST: COMPLETE", x, "DONE 0:1 3:4 6:7");
    }

    private static void sample() {
        TimedStreams x = Made.with(14, 0, 4);
        Made.emit(x, 0, 1, 2);
        x.advance(3);
        due.items("SAMPLE: not yet", x, "ACTIVE");
        x.advance(1);
        Made.emit(x, 0, 3);
        x.advance(4);
        due.items("SAMPLE: the latest of each time", x, "ACTIVE 4:2 8:3");
        x.advance(4);
        due.items("SAMPLE: none has come since", x, "ACTIVE 4:2 8:3");
        Made.emit(x, 0, 4);
        x.complete(0);
        due.items("SAMPLE: COMPLETE at its moment", x, "DONE 4:2 8:3");
        x = Made.with(14, 2, 5);
        x.advance(10);
        due.items("SAMPLE: an item at the same time by a part before it", x, "ACTIVE 5:0 10:1");
        x = Made.with(2, 9, 0, 19, 3, 0, 14, 4, 6);
        x.advance(12);
        due.items("SAMPLE: an item at the beginning", x, "ACTIVE 6:9");
    }

    private static void limit() {
        TimedStreams x = Made.with(15, 0, 4);
        x.advance(3);
        due.items("LIMIT: not yet", x, "ACTIVE");
        x.advance(1);
        due.items("LIMIT: after the beginning", x, "FAILED 9");
        x = Made.with(15, 0, 4);
        x.advance(3);
        Made.emit(x, 0, 1);
        x.advance(3);
        Made.emit(x, 0, 2);
        x.advance(3);
        due.items("LIMIT: counts from the last item", x, "ACTIVE 3:1 6:2");
        x.advance(20);
        due.items("LIMIT: after the last item", x, "FAILED 9 3:1 6:2");
        x = Made.with(15, 0, 4);
        x.advance(3);
        x.complete(0);
        x.advance(9);
        due.items("LIMIT: an end came", x, "DONE");
        x = Made.with(15, 2, 5);
        x.advance(50);
        due.same("LIMIT: an item at the same time by a part before it", x.delivered(0), 10);
        x = Made.with(15, 2, 4);
        x.advance(50);
        due.items("LIMIT: before the first", x, "FAILED 9");
        x = Made.with(15, 0, 4, 19, 0, 3);
        x.advance(7);
        x.complete(0);
        x.advance(3);
        due.items("LIMIT: from a later beginning, not yet", x, "ACTIVE");
        x.advance(1);
        due.items("LIMIT: from a later beginning", x, "FAILED 9");
    }

    private static void merge() {
        TimedStreams x = Made.with(16, 0, 1);
        Made.emit(x, 0, 1);
        Made.emit(x, 1, 2);
        Made.emit(x, 0, 3);
        x.complete(0);
        Made.emit(x, 1, 4);
        due.items("MERGE: not with the first COMPLETE", x, "ACTIVE 0:1 0:2 0:3 0:4");
        x.complete(1);
        due.items("MERGE: with the later one", x, "DONE 0:1 0:2 0:3 0:4");
        x = Made.with(16, 0, 1);
        x.complete(1);
        Made.emit(x, 0, 5);
        x.complete(0);
        due.items("MERGE: Y first", x, "DONE 0:5");
        x = Made.with(16, 0, 1);
        x.complete(0);
        x.fail(1, 5);
        due.items("MERGE: an ERROR behind a COMPLETE", x, "FAILED 5");
        x = Made.with(2, 7, 0, 2, 8, 0, 16, 4, 3);
        due.items("MERGE: of equal moments X first", x, "DONE 0:8 0:7");
        x = Made.with(3, 0, 10, 16, 0, 3, 16, 3, 0, 16, 4, 5);
        Made.emit(x, 0, 1);
        due.items("MERGE: by the number of the source's part", x, "ACTIVE 0:1 0:11 0:11 0:1");
    }

    private static void zip() {
        TimedStreams x = Made.with(17, 0, 1);
        Made.emit(x, 0, 1, 2);
        x.advance(1);
        Made.emit(x, 1, 5);
        x.advance(1);
        Made.emit(x, 1, 6, 7);
        due.items("ZIP: at the later moment", x, "ACTIVE 1:36 2:68");
        Made.emit(x, 0, MOST);
        due.items("ZIP: wraps", x, "ACTIVE 1:36 2:68 2:" + (31 * MOST + 7));
        x = Made.with(17, 0, 1);
        Made.emit(x, 0, 1, 2);
        x.complete(0);
        Made.emit(x, 1, 1);
        due.items("ZIP: one is not in a pair", x, "ACTIVE 0:32");
        Made.emit(x, 1, 1);
        due.items("ZIP: all of X are in pairs", x, "DONE 0:32 0:63");
        x = Made.with(17, 0, 1);
        Made.emit(x, 1, 1, 2);
        x.complete(0);
        due.items("ZIP: X complete without items, Y waits", x, "DONE");
        x = Made.with(17, 0, 1);
        Made.emit(x, 1, 4);
        x.complete(1);
        due.items("ZIP: one of Y waits", x, "ACTIVE");
        Made.emit(x, 0, 1);
        due.items("ZIP: all of Y are in pairs", x, "DONE 0:35");
        x = Made.with(17, 0, 1);
        Made.emit(x, 0, 1, 2);
        Made.emit(x, 1, 3);
        x.complete(1);
        due.items("ZIP: Y complete, X waits", x, "DONE 0:34");
        x = Made.with(17, 0, 0);
        Made.emit(x, 0, 1, 2);
        due.items("ZIP: with itself", x, "ACTIVE 0:32 0:64");
        x = Made.with(17, 0, 1);
        Made.emit(x, 0, 1);
        x.complete(0);
        x.fail(1, 2);
        due.items("ZIP: an ERROR behind a COMPLETE", x, "FAILED 2");
        x = Made.with(2, 1, 0, 2, 2, 0, 17, 3, 4);
        due.items("ZIP: both at the beginning", x, "DONE 0:33");
    }

    private static void zipFull() {
        for (int s = 0; s < 2; s++) {
            TimedStreams x = Made.with(17, 0, 1);
            Made.emit(x, s, 0, 0, 0, 0, 0, 0, 0, 0);
            due.items("ZIP: eight wait", x, "ACTIVE");
            Made.emit(x, 1 - s, 0);
            Made.emit(x, s, 0);
            due.items("ZIP: again eight", x, "ACTIVE 0:0");
            Made.emit(x, s, 0);
            due.items("ZIP: a ninth", x, "FAILED 8 0:0");
        }
    }

    private static void latest() {
        TimedStreams x = Made.with(18, 0, 1);
        Made.emit(x, 0, 1, 2);
        due.items("LATEST: one has had none", x, "ACTIVE");
        Made.emit(x, 1, 3);
        x.advance(1);
        Made.emit(x, 0, 4);
        Made.emit(x, 1, 5);
        due.items("LATEST: each item of either", x, "ACTIVE 0:65 1:127 1:129");
        x.complete(0);
        Made.emit(x, 1, MOST);
        due.items("LATEST: one is complete; wraps", x, "ACTIVE 0:65 1:127 1:129 1:" + (124 + MOST));
        x.complete(1);
        due.items("LATEST: both are", x, "DONE 0:65 1:127 1:129 1:" + (124 + MOST));
        for (int s = 0; s < 2; s++) {
            x = Made.with(18, 0, 1);
            Made.emit(x, 1 - s, 4);
            x.complete(s);
            due.items("LATEST: one is that had no item", x, "DONE");
            x = Made.with(18, 0, 1);
            Made.emit(x, s, 4);
            x.complete(s);
            due.items("LATEST: one is that had an item", x, "ACTIVE");
            x.complete(1 - s);
            due.items("LATEST: then the other", x, "DONE");
        }
        x = Made.with(18, 0, 0);
        Made.emit(x, 0, 1, 2);
        due.items("LATEST: with itself, X first", x, "ACTIVE 0:32 0:63 0:64");
    }

    private static void concat() {
        TimedStreams x = Made.with(19, 0, 1);
        Made.emit(x, 1, 9);
        Made.emit(x, 0, 1);
        x.complete(0);
        Made.emit(x, 1, 2);
        due.items("CONCAT: X, then Y", x, "ACTIVE 0:1 0:2");
        x.complete(1);
        due.items("CONCAT: the COMPLETE of Y", x, "DONE 0:1 0:2");
        x = Made.with(19, 0, 1);
        x.fail(0, 2);
        due.items("CONCAT: an ERROR of X", x, "FAILED 2");
        x = Made.with(19, 0, 1);
        x.complete(0);
        x.fail(1, 3);
        due.items("CONCAT: an ERROR of Y", x, "FAILED 3");
        x = Made.with(6, 0, 1, 19, 3, 0);
        Made.emit(x, 0, 1, 2);
        due.items("CONCAT: the call in which Y begins is not heard by it", x, "ACTIVE 0:1 0:2");
        x = Made.with(2, 4, 0, 19, 3, 3, 19, 4, 3);
        due.items("CONCAT: all at the beginning", x, "DONE 0:4 0:4 0:4");
        x = Made.with(19, 0, 1);
        x.complete(1);
        x.complete(0);
        due.items("CONCAT: Y ended before it began", x, "ACTIVE");
        due.same("CONCAT: and is open", x.open(1), 1);
    }

    private static void resume() {
        TimedStreams x = Made.with(20, 0, 1);
        Made.emit(x, 1, 9);
        Made.emit(x, 0, 1);
        x.fail(0, 3);
        Made.emit(x, 1, 2);
        due.items("RESUME: X, then Y", x, "ACTIVE 0:1 0:2");
        x.fail(1, 4);
        due.items("RESUME: an ERROR of Y", x, "FAILED 4 0:1 0:2");
        x = Made.with(20, 0, 1);
        x.complete(0);
        due.items("RESUME: the COMPLETE of X", x, "DONE");
        x = Made.with(20, 0, 1);
        x.fail(0, 1);
        x.complete(1);
        due.items("RESUME: the COMPLETE of Y", x, "DONE");
        x = Made.with(15, 0, 4, 20, 3, 2);
        x.advance(14);
        due.items("RESUME: of a LIMIT, from its ERROR on", x, "ACTIVE 9:0 14:1");
        x = Made.with(17, 0, 1, 2, 5, 0, 20, 3, 4);
        Made.emit(x, 0, 0, 0, 0, 0, 0, 0, 0, 0, 0);
        due.items("RESUME: of a ninth in ZIP", x, "DONE 0:5");
        x = new TimedStreams();
        x.stage(0, 0, 0);
        x.stage(2, 5, 0);
        x.stage(20, 0, 1);
        x.subscribe(0, 2);
        x.request(0, 0);
        due.items("RESUME: not of the subscription's own codes", x, "FAILED 6");
    }

    private static void beginningInTime() {
        TimedStreams x = Made.with(6, 2, 2, 3, 2, 100, 19, 3, 4);
        x.advance(21);
        due.items("a beginning by a timer", x, "ACTIVE 5:0 10:1 15:100 20:101");
        x = Made.with(11, 0, 3, 19, 3, 0);
        Made.emit(x, 0, 1);
        x.complete(0);
        x.restart();
        x.stage(6, 2, 1);
        x.stage(19, 5, 1);
        x.subscribe(0, 6);
        x.request(0, 9);
        Made.emit(x, 1, 1);
        x.advance(5);
        Made.emit(x, 1, 2);
        due.items("a SOURCE that begins by a timer", x, "ACTIVE 5:0 5:2");
        x = Made.with(14, 0, 4, 19, 1, 3);
        x.advance(3);
        x.complete(1);
        Made.emit(x, 0, 8);
        x.advance(3);
        due.items("SAMPLE counts from its beginning, not yet", x, "ACTIVE");
        x.advance(1);
        due.items("SAMPLE counts from its beginning", x, "ACTIVE 7:8");
    }

    private static void momentsAtOneTime() {
        TimedStreams x = Made.with(11, 0, 5, 16, 3, 2, 16, 2, 3);
        x.emit(0, 50);
        x.subscribe(1, 4);
        x.request(1, 9);
        x.emit(0, 60);
        x.advance(5);
        due.items("INTERVAL has the lesser number", x, "ACTIVE 5:0 5:50 5:60");
        due.same("DELAY has the lesser number", Tell.items(x, 1), "ACTIVE 5:60 5:0");
        x = Made.with(11, 2, 5, 6, 3, 1, 19, 4, 0);
        x.advance(10);
        due.items("DELAY of an INTERVAL", x, "ACTIVE 10:0");
        x = Made.with(6, 2, 2, 14, 3, 10);
        x.advance(10);
        due.items("COMPLETE at the same time by a part before SAMPLE", x, "DONE");
        x = Made.with(6, 2, 2, 12, 3, 5);
        x.advance(10);
        due.items("COMPLETE at the same time by a part before QUIET", x, "DONE 10:1");
    }
}
