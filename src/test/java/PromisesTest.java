/** Each promise by its number: ordinary calls, the edges that the document names, and wrong arguments. */
public final class PromisesTest {
    private static final Due due = new Due();
    private static final long MOST = Long.MAX_VALUE;
    private static final int BAD = TimedStreams.BAD, FULL = TimedStreams.FULL, NONE = TimedStreams.NONE;
    private static final int ACTIVE = TimedStreams.ACTIVE, DONE = TimedStreams.DONE, FAILED = TimedStreams.FAILED;
    private static final int CANCELLED = TimedStreams.CANCELLED;

    public static void main(String[] args) {
        promise1NewObject();
        promise2Operands();
        promise2Full();
        promise3Subscribe();
        promise3SubscribeAgain();
        promise4Request();
        promise4RequestEdges();
        promise4RequestCalls();
        promise5Cancel();
        promise6Emit();
        promise6EmitCalls();
        promise7Complete();
        promise8Fail();
        promise9Advance();
        promise9OrderOfTimers();
        promise10Status();
        promise11Code();
        promise12Delivered();
        promise13Item();
        promise14Pending();
        promise15Open();
        promise15OpenUsers();
        promise16Restart();
        promise17Order();
        waitingItems();
        due.end();
    }

    /** A new object with the stages 0 SOURCE 0, 1 SOURCE 1, 2 INTERVAL 5, 3 JUST 7. */
    private static TimedStreams fresh() {
        TimedStreams x = new TimedStreams();
        x.stage(0, 0, 0);
        x.stage(0, 1, 0);
        x.stage(1, 5, 0);
        x.stage(2, 7, 0);
        return x;
    }

    private static void promise1NewObject() {
        TimedStreams x = new TimedStreams();
        due.same("1: subscribe without stages", x.subscribe(0, 0), BAD);
        for (int id = 0; id < 3; id++) {
            due.told("1: subscription " + id, x, id, "NONE");
            due.same("1: delivered", x.delivered(id), 0);
            due.same("1: item", x.item(id, 0), -1);
            due.same("1: pending", x.pending(id), 0);
            due.same("1: open", x.open(id), 0);
            due.same("1: request", x.request(id, 1), false);
            due.same("1: cancel", x.cancel(id), false);
            due.same("1: emit", x.emit(id, 1), true);
        }
        due.same("1: time", x.advance(0), 0);
        due.same("1: first stage", x.stage(2, 1, 0), 0);
        TimedStreams other = new TimedStreams();
        due.same("1: another object has stages of its own", other.stage(0, 0, 0), 0);
    }

    private static void promise2Operands() {
        int any = Integer.MIN_VALUE;
        for (int kind : new int[] {-1, 21, any, Integer.MAX_VALUE}) {
            due.same("2: kind " + kind, fresh().stage(kind, 0, 1), BAD);
        }
        range("2: SOURCE", 0, 0, 2, true);
        range("2: INTERVAL", 1, 5, 50, true);
        due.same("2: JUST", fresh().stage(2, any, any), 4);
        for (int kind = 3; kind <= 20; kind++) {
            int b = kind == 9 ? 2 : 1;
            due.same("2: a last", fresh().stage(kind, 3, b), 4);
            due.same("2: a first", fresh().stage(kind, 0, b), 4);
            due.same("2: a is the stage itself", fresh().stage(kind, 4, b), BAD);
            due.same("2: a below", fresh().stage(kind, -1, b), BAD);
            due.same("2: a wild", fresh().stage(kind, any, b), BAD);
        }
        for (int kind : new int[] {3, 4, 5, 8, 10}) {
            due.same("2: b any", fresh().stage(kind, 0, any), 4);
            due.same("2: b any", fresh().stage(kind, 0, Integer.MAX_VALUE), 4);
        }
        range("2: TAKE", 6, 1, 8, false);
        range("2: SKIP", 7, 0, 8, false);
        range("2: BUFFER", 9, 2, 5, false);
        for (int kind = 11; kind <= 15; kind++) {
            range("2: timed", kind, 1, 30, false);
        }
        for (int kind = 16; kind <= 20; kind++) {
            range("2: joined", kind, 0, 3, false);
            due.same("2: a and b the same", fresh().stage(kind, 2, 2), 4);
        }
    }

    private static void range(String where, int kind, int least, int most, boolean isA) {
        for (int n : new int[] {least - 1, least, most, most + 1, Integer.MIN_VALUE, Integer.MAX_VALUE}) {
            int want = n >= least && n <= most ? 4 : BAD;
            due.same(where + " " + n, fresh().stage(kind, isA ? n : 0, isA ? Integer.MIN_VALUE : n), want);
        }
    }

    private static void promise2Full() {
        TimedStreams x = new TimedStreams();
        for (int i = 0; i < 12; i++) {
            due.same("2: number", x.stage(0, i % 3, 0), i);
        }
        due.same("2: a thirteenth", x.stage(0, 0, 0), FULL);
        due.same("2: BAD before FULL, kind", x.stage(21, 0, 0), BAD);
        due.same("2: BAD before FULL, operand", x.stage(0, 3, 0), BAD);
        due.same("2: BAD before FULL, stage", x.stage(3, 12, 0), BAD);
        due.same("2: the last as operand", x.stage(3, 11, 0), FULL);
        due.same("2: nothing was made", x.subscribe(0, 12), BAD);
        TimedStreams y = fresh();
        y.stage(6, 0, 9);
        due.same("2: BAD makes nothing", y.subscribe(0, 4), BAD);
        due.same("2: next number", y.stage(6, 0, 8), 4);
    }

    private static void promise3Subscribe() {
        TimedStreams x = fresh();
        for (int id : new int[] {-1, 3, Integer.MIN_VALUE, Integer.MAX_VALUE}) {
            due.same("3: id " + id, x.subscribe(id, 0), BAD);
        }
        for (int stage : new int[] {-1, 4, Integer.MIN_VALUE, Integer.MAX_VALUE}) {
            due.same("3: stage " + stage, x.subscribe(0, stage), BAD);
        }
        due.told("3: BAD changes nothing", x, 0, "NONE");
        due.same("3: one part", x.subscribe(0, 0), 1);
        due.told("3: new", x, 0, "ACTIVE +0/0");
        due.same("3: JUST", x.subscribe(1, 3), 1);
        due.told("3: an item at the beginning waits", x, 1, "ACTIVE +1/0");
        due.same("3: stage 4", x.stage(3, 0, 1), 4);
        due.same("3: two parts", x.subscribe(2, 4), 2);
        due.same("3: stage 5", x.stage(16, 4, 4), 5);
        due.same("3: a stage used twice", x.subscribe(2, 5), 5);
        due.same("3: stage 6", x.stage(19, 5, 0), 6);
        due.same("3: parts of a, of b, and one", x.subscribe(2, 6), 7);
        due.same("3: stage 7", x.stage(20, 6, 0), 7);
        due.same("3: nine", x.subscribe(2, 7), 9);
        due.same("3: stage 8", x.stage(8, 7, 0), 8);
        x.emit(0, 1);
        due.same("3: ten are too many", x.subscribe(2, 8), FULL);
        due.told("3: FULL changes nothing", x, 2, "ACTIVE +2/0");
        due.same("3: stages 9, 10, 11", x.stage(16, 8, 8) + x.stage(16, 9, 9) + x.stage(16, 10, 10), 9 + 10 + 11);
        due.same("3: far too many", x.subscribe(2, 11), FULL);
    }

    private static void promise3SubscribeAgain() {
        TimedStreams x = fresh();
        x.subscribe(0, 0);
        x.request(0, 3);
        x.emit(0, 5);
        due.same("3: BAD stage keeps the old one", x.subscribe(0, 9), BAD);
        due.told("3: kept", x, 0, "ACTIVE 0:5 +0/2");
        due.same("3: again", x.subscribe(0, 1), 1);
        due.told("3: nothing is left", x, 0, "ACTIVE +0/0");
        due.same("3: the old one is given up", x.open(0), 0);
        x.emit(0, 6);
        x.emit(1, 8);
        due.told("3: hears the new stage alone", x, 0, "ACTIVE +1/0");
        x.request(0, 0);
        due.told("3: failed", x, 0, "FAILED 6");
        x.subscribe(0, 0);
        due.told("3: active again", x, 0, "ACTIVE +0/0");
        x.stage(12, 0, 5);
        x.subscribe(0, 4);
        x.emit(0, 1);
        x.subscribe(0, 4);
        x.request(0, 9);
        x.advance(20);
        due.told("3: what a part held is gone", x, 0, "ACTIVE +0/9");
    }

    private static void promise4Request() {
        TimedStreams x = fresh();
        x.subscribe(0, 0);
        due.same("4: request", x.request(0, 2), true);
        due.same("4: request adds", x.request(0, 1), true);
        due.told("4: demand", x, 0, "ACTIVE +0/3");
        for (int v = 1; v <= 5; v++) {
            x.emit(0, v);
        }
        due.told("4: each delivery takes one", x, 0, "ACTIVE 0:1 0:2 0:3 +2/0");
        x.advance(4);
        due.same("4: request delivers", x.request(0, 1), true);
        due.told("4: the oldest first, with the time of delivery", x, 0, "ACTIVE 0:1 0:2 0:3 4:4 +1/0");
        x.emit(0, 6);
        due.same("4: request more than waits", x.request(0, 5), true);
        due.told("4: what is over stays", x, 0, "ACTIVE 0:1 0:2 0:3 4:4 4:5 4:6 +0/3");
        for (int id : new int[] {-1, 1, 3, Integer.MIN_VALUE, Integer.MAX_VALUE}) {
            due.same("4: no such subscription " + id, x.request(id, 1), false);
        }
    }

    private static void promise4RequestEdges() {
        for (long n : new long[] {0, -1, Long.MIN_VALUE}) {
            TimedStreams x = fresh();
            x.subscribe(0, 0);
            x.emit(0, 1);
            x.emit(0, 2);
            due.same("4: below 1", x.request(0, n), true);
            due.told("4: FAILED with 6, what waits is gone", x, 0, "FAILED 6");
            due.same("4: pending", x.pending(0), 0);
            due.same("4: not ACTIVE", x.request(0, 1), false);
            due.same("4: not ACTIVE, below 1", x.request(0, 0), false);
            due.told("4: stays", x, 0, "FAILED 6");
        }
        TimedStreams x = fresh();
        x.subscribe(0, 0);
        x.request(0, MOST);
        x.emit(0, 1);
        x.request(0, MOST);
        x.emit(0, 2);
        due.told("4: the greatest demand does not go down", x, 0, "ACTIVE 0:1 0:2 +0/15");
        for (int i = 0; i < 18; i++) {
            x.emit(0, i);
        }
        due.same("4: still", x.pending(0), 15);
        x.subscribe(1, 0);
        x.request(1, MOST - 20);
        x.request(1, 30);
        for (int i = 0; i < 8; i++) {
            x.emit(0, i);
        }
        due.same("4: a sum above it is the greatest", x.delivered(1), 8);
        due.same("4: not below 0", x.pending(1), 15);
        TimedStreams y = fresh();
        y.subscribe(0, 3);
        y.request(0, 0);
        due.told("4: an end that waits is gone too", y, 0, "FAILED 6");
    }

    private static void promise4RequestCalls() {
        TimedStreams x = fresh();
        x.subscribe(0, 0);
        x.subscribe(1, 0);
        due.same("4: calls of another", x.request(1, 1), true);
        for (int i = 0; i < 32; i++) {
            due.same("4: call " + i, x.request(0, 1), true);
        }
        due.same("4: a thirty-third", x.request(0, 1), false);
        due.same("4: below 1 as well", x.request(0, 0), false);
        due.same("4: nothing changes", x.status(0), ACTIVE);
        due.same("4: another subscription", x.request(1, 1), true);
        for (int i = 0; i < 32; i++) {
            x.emit(0, i);
        }
        due.same("4: demand was 32", x.delivered(0), 32);
        due.same("4: demand is 0", x.pending(0), 0);
        x.subscribe(0, 0);
        due.same("4: a new subscription has had none", x.request(0, 1), true);
    }

    private static void promise5Cancel() {
        TimedStreams x = fresh();
        for (int id : new int[] {-1, 0, 3, Integer.MIN_VALUE, Integer.MAX_VALUE}) {
            due.same("5: none " + id, x.cancel(id), false);
        }
        x.subscribe(0, 0);
        x.subscribe(1, 0);
        x.request(0, 1);
        x.emit(0, 1);
        x.emit(0, 2);
        due.same("5: cancel", x.cancel(0), true);
        due.same("5: status", x.status(0), CANCELLED);
        due.same("5: what waits is gone", x.pending(0), 0);
        due.same("5: twice", x.cancel(0), false);
        due.same("5: request", x.request(0, 1), false);
        x.emit(0, 3);
        due.told("5: nothing comes any more", x, 0, "CANCELLED 0:1");
        due.told("5: another goes on", x, 1, "ACTIVE +3/0");
        x.complete(0);
        due.told("5: nor an end", x, 0, "CANCELLED 0:1");
        due.same("5: an end that waits", x.cancel(1), true);
        due.told("5: cancelled before it", x, 1, "CANCELLED");
        x.subscribe(2, 3);
        x.request(2, 1);
        due.same("5: DONE", x.cancel(2), false);
        due.same("5: stays DONE", x.status(2), DONE);
    }

    private static void promise6Emit() {
        TimedStreams x = fresh();
        for (int s : new int[] {-1, 3, Integer.MIN_VALUE, Integer.MAX_VALUE}) {
            due.same("6: source " + s, x.emit(s, 1), false);
        }
        x.subscribe(0, 0);
        x.subscribe(1, 1);
        x.request(0, 9);
        x.request(1, 9);
        due.same("6: emit", x.emit(0, Integer.MIN_VALUE), true);
        due.same("6: emit", x.emit(0, Integer.MAX_VALUE), true);
        due.same("6: emit", x.emit(1, -1), true);
        due.same("6: nobody listens", x.emit(2, 4), true);
        due.told("6: its own source", x, 0, "ACTIVE 0:-2147483648 0:2147483647 +0/7");
        due.told("6: its own source", x, 1, "ACTIVE 0:-1 +0/8");
        x.complete(0);
        due.same("6: it has ended", x.emit(0, 1), false);
        due.same("6: another has not", x.emit(1, 1), true);
        x.fail(1, 3);
        due.same("6: it has failed", x.emit(1, 1), false);
        x.subscribe(0, 0);
        x.request(0, 9);
        due.same("6: ended for all", x.emit(0, 1), false);
        due.told("6: nothing came", x, 0, "ACTIVE +0/9");
    }

    private static void promise6EmitCalls() {
        TimedStreams x = fresh();
        x.subscribe(0, 0);
        x.subscribe(1, 1);
        x.request(0, 99);
        x.request(1, 99);
        for (int i = 0; i < 30; i++) {
            due.same("6: call " + i, x.emit(i % 2, i), true);
        }
        due.same("6: not taken, not counted", x.emit(3, 0) || x.complete(-1) || x.fail(0, 6), false);
        due.same("6: the 31st", x.complete(2), true);
        due.same("6: not taken, not counted", x.emit(2, 0), false);
        due.same("6: the 32nd", x.fail(0, 1), true);
        due.same("6: emit", x.emit(1, 0), false);
        due.same("7: complete", x.complete(1), false);
        due.same("8: fail", x.fail(1, 1), false);
        due.same("6: nothing changes", x.delivered(1), 15);
        due.same("6: nothing changes", x.status(1), ACTIVE);
        x.restart();
        due.same("6: since the restart", x.emit(1, 0), true);
    }

    private static void promise7Complete() {
        TimedStreams x = fresh();
        for (int s : new int[] {-1, 3, Integer.MIN_VALUE, Integer.MAX_VALUE}) {
            due.same("7: source " + s, x.complete(s), false);
        }
        x.subscribe(0, 0);
        x.subscribe(1, 0);
        x.subscribe(2, 1);
        x.emit(0, 4);
        x.request(1, 1);
        due.same("7: complete", x.complete(0), true);
        due.told("7: an item waits", x, 0, "ACTIVE +1/0");
        due.told("7: none waits", x, 1, "DONE 0:4");
        due.told("7: another source", x, 2, "ACTIVE +0/0");
        x.request(0, 1);
        due.told("7: as soon as none waits", x, 0, "DONE 0:4");
        due.same("7: twice", x.complete(0), false);
        due.same("7: fail behind it", x.fail(0, 1), false);
        x.subscribe(0, 0);
        x.request(0, 1);
        due.told("7: a later part hears nothing of it", x, 0, "ACTIVE +0/1");
        due.same("7: and is open", x.open(0), 1);
        x.stage(19, 0, 0);
        x.restart();
        x.subscribe(0, 4);
        x.complete(0);
        due.told("7: a part that begins in this call hears nothing of it", x, 0, "ACTIVE +0/0");
        due.same("7: and is open", x.open(0), 1);
    }

    private static void promise8Fail() {
        TimedStreams x = fresh();
        for (int s : new int[] {-1, 3, Integer.MIN_VALUE, Integer.MAX_VALUE}) {
            due.same("8: source " + s, x.fail(s, 1), false);
        }
        x.subscribe(0, 0);
        for (int code : new int[] {0, 6, -1, Integer.MIN_VALUE, Integer.MAX_VALUE}) {
            due.same("8: code " + code, x.fail(0, code), false);
        }
        due.told("8: nothing changes", x, 0, "ACTIVE +0/0");
        due.same("8: not ended", x.emit(0, 4), true);
        due.same("8: fail", x.fail(0, 5), true);
        due.told("8: an item waits", x, 0, "ACTIVE +1/0");
        due.same("8: no code yet", x.code(0), 0);
        x.request(0, 1);
        due.told("8: as soon as none waits", x, 0, "FAILED 5 0:4");
        due.same("8: twice", x.fail(0, 5), false);
        due.same("8: complete behind it", x.complete(0), false);
        x.restart();
        x.subscribe(0, 0);
        due.same("8: least code", x.fail(0, 1), true);
        due.told("8: at once", x, 0, "FAILED 1");
    }

    private static void promise9Advance() {
        TimedStreams x = fresh();
        due.same("9: below 0", x.advance(-1), BAD);
        due.same("9: far below 0", x.advance(Integer.MIN_VALUE), BAD);
        due.same("9: above 200", x.advance(201), BAD);
        due.same("9: far above", x.advance(Integer.MAX_VALUE), BAD);
        due.same("9: nothing changes", x.advance(0), 0);
        x.subscribe(0, 2);
        x.request(0, 99);
        due.same("9: by d", x.advance(4), 4);
        due.told("9: not yet", x, 0, "ACTIVE +0/15");
        due.same("9: by d", x.advance(1), 5);
        due.told("9: at the time", x, 0, "ACTIVE 5:0 +0/15");
        due.same("9: by 0", x.advance(0), 5);
        due.same("9: over several", x.advance(11), 16);
        due.told("9: each at its time", x, 0, "ACTIVE 5:0 10:1 15:2 +0/15");
        due.same("9: would be 201", x.advance(185), BAD);
        due.same("9: would wrap", x.advance(Integer.MAX_VALUE), BAD);
        due.told("9: nothing changes", x, 0, "ACTIVE 5:0 10:1 15:2 +0/15");
        due.same("9: to 200", x.advance(184), 200);
        due.same("9: all of them", x.delivered(0), 40);
        due.same("9: the last", x.item(0, 0), (200L << 32) + 39);
        due.same("9: no further", x.advance(1), BAD);
        due.same("9: by 0 at 200", x.advance(0), 200);
    }

    private static void promise9OrderOfTimers() {
        TimedStreams x = fresh();
        x.stage(3, 2, 100);
        x.stage(16, 2, 4);
        x.stage(16, 4, 2);
        x.subscribe(0, 5);
        x.subscribe(1, 6);
        x.request(0, 9);
        x.request(1, 9);
        x.advance(10);
        due.told("9: by the number of the part", x, 0, "ACTIVE 5:0 5:100 10:1 10:101 +0/5");
        due.told("9: by the number of the part", x, 1, "ACTIVE 5:100 5:0 10:101 10:1 +0/5");
        TimedStreams y = fresh();
        y.stage(11, 0, 5);
        y.stage(12, 4, 5);
        y.subscribe(0, 5);
        y.request(0, 9);
        y.emit(0, 1);
        y.advance(5);
        y.emit(0, 2);
        y.advance(5);
        due.told("9: the part before at one time goes first", y, 0, "ACTIVE +0/9");
        y.advance(5);
        due.told("9: and then alone", y, 0, "ACTIVE 15:2 +0/8");
        TimedStreams z = fresh();
        z.stage(14, 0, 5);
        z.subscribe(0, 4);
        z.request(0, 9);
        z.advance(5);
        z.emit(0, 1);
        z.advance(5);
        due.told("9: timers come before calls of the same time", z, 0, "ACTIVE 10:1 +0/8");
    }

    private static void promise10Status() {
        TimedStreams x = fresh();
        for (int id : new int[] {-1, 0, 1, 2, 3, Integer.MIN_VALUE, Integer.MAX_VALUE}) {
            due.same("10: none " + id, x.status(id), NONE);
        }
        x.subscribe(0, 0);
        x.subscribe(2, 0);
        due.same("10: ACTIVE", x.status(0), ACTIVE);
        due.same("10: another id", x.status(1), NONE);
        x.cancel(0);
        due.same("10: CANCELLED", x.status(0), CANCELLED);
        x.complete(0);
        due.same("10: DONE", x.status(2), DONE);
        x.subscribe(1, 1);
        x.fail(1, 2);
        due.same("10: FAILED", x.status(1), FAILED);
        x.restart();
        due.same("10: since the restart", x.status(0), NONE);
        due.same("10: since the restart", x.status(1), NONE);
        due.same("10: since the restart", x.status(2), NONE);
    }

    private static void promise11Code() {
        TimedStreams x = fresh();
        for (int id : new int[] {-1, 0, 3, Integer.MIN_VALUE, Integer.MAX_VALUE}) {
            due.same("11: none " + id, x.code(id), 0);
        }
        x.subscribe(0, 1);
        due.same("11: ACTIVE", x.code(0), 0);
        x.fail(1, 4);
        due.same("11: FAILED", x.code(0), 4);
        x.subscribe(0, 3);
        due.same("11: again ACTIVE", x.code(0), 0);
        x.request(0, 1);
        due.same("11: DONE", x.code(0), 0);
        x.subscribe(1, 0);
        x.emit(0, 1);
        x.fail(0, 3);
        x.cancel(1);
        due.same("11: CANCELLED with an ERROR behind what waits", x.code(1), 0);
    }

    private static void promise12Delivered() {
        TimedStreams x = fresh();
        for (int id : new int[] {-1, 0, 3, Integer.MIN_VALUE, Integer.MAX_VALUE}) {
            due.same("12: none " + id, x.delivered(id), 0);
        }
        x.subscribe(1, 0);
        x.request(1, 20);
        for (int i = 0; i < 22; i++) {
            x.emit(0, i);
        }
        due.same("12: only what was delivered", x.delivered(1), 20);
        x.cancel(1);
        due.same("12: stays", x.delivered(1), 20);
        x.subscribe(1, 0);
        due.same("12: of the new one", x.delivered(1), 0);
        x.request(1, 1);
        x.emit(0, 1);
        x.restart();
        due.same("12: since the restart", x.delivered(1), 0);
    }

    private static void promise13Item() {
        TimedStreams x = fresh();
        x.subscribe(0, 0);
        x.subscribe(1, 0);
        x.request(0, 99);
        due.same("13: none yet", x.item(0, 0), -1);
        x.emit(0, -1);
        due.same("13: without sign", x.item(0, 0), 0xFFFFFFFFL);
        due.same("13: only one", x.item(0, 1), -1);
        x.advance(200);
        x.emit(0, Integer.MIN_VALUE);
        due.same("13: time and item", x.item(0, 0), (200L << 32) + 0x80000000L);
        due.same("13: one before", x.item(0, 1), 0xFFFFFFFFL);
        for (int i = 0; i < 18; i++) {
            x.emit(0, i);
        }
        for (int k = 0; k < 16; k++) {
            due.same("13: k " + k, x.item(0, k), (200L << 32) + 17 - k);
        }
        for (int k : new int[] {-1, 16, 17, Integer.MIN_VALUE, Integer.MAX_VALUE}) {
            due.same("13: k " + k, x.item(0, k), -1);
        }
        for (int id : new int[] {-1, 1, 2, 3, Integer.MIN_VALUE, Integer.MAX_VALUE}) {
            due.same("13: id " + id, x.item(id, 0), -1);
        }
        x.cancel(0);
        due.same("13: stays", x.item(0, 0), (200L << 32) + 17);
        x.subscribe(0, 0);
        due.same("13: of the new one", x.item(0, 0), -1);
    }

    private static void promise14Pending() {
        TimedStreams x = fresh();
        for (int id : new int[] {-1, 0, 3, Integer.MIN_VALUE, Integer.MAX_VALUE}) {
            due.same("14: none " + id, x.pending(id), 0);
        }
        x.subscribe(0, 0);
        due.same("14: nothing", x.pending(0), 0);
        x.request(0, 14);
        due.same("14: demand 14", x.pending(0), 14);
        x.request(0, 1);
        due.same("14: demand 15", x.pending(0), 15);
        x.request(0, 1);
        due.same("14: demand 16", x.pending(0), 15);
        x.request(0, 4294967296L);
        due.same("14: a great demand", x.pending(0), 15);
        x.subscribe(0, 0);
        x.emit(0, 1);
        due.same("14: one waits", x.pending(0), 16);
        for (int i = 0; i < 7; i++) {
            x.emit(0, 1);
        }
        due.same("14: eight wait", x.pending(0), 128);
        x.request(0, 2);
        due.same("14: six wait", x.pending(0), 96);
        x.cancel(0);
        due.same("14: not ACTIVE", x.pending(0), 0);
        x.subscribe(0, 3);
        x.request(0, 5);
        due.same("14: DONE with demand", x.pending(0), 0);
    }

    private static void promise15Open() {
        TimedStreams x = fresh();
        x.stage(16, 0, 0);
        x.stage(16, 4, 1);
        for (int s : new int[] {-1, 0, 1, 2, 3, Integer.MIN_VALUE, Integer.MAX_VALUE}) {
            due.same("15: none " + s, x.open(s), 0);
        }
        x.subscribe(0, 5);
        due.same("15: two of them", x.open(0), 2);
        due.same("15: one", x.open(1), 1);
        due.same("15: no other", x.open(2) + x.open(-1) + x.open(3), 0);
        x.subscribe(1, 4);
        x.subscribe(2, 0);
        due.same("15: in all subscriptions", x.open(0), 5);
        x.cancel(1);
        due.same("15: cancelled", x.open(0), 3);
        x.request(2, 0);
        due.same("15: failed", x.open(0), 2);
        x.complete(0);
        due.same("15: ended", x.open(0), 0);
        due.same("15: not ended", x.open(1), 1);
        x.subscribe(1, 4);
        due.same("15: begun after the end", x.open(0), 2);
        x.restart();
        due.same("15: since the restart", x.open(0) + x.open(1), 0);
    }

    private static void promise15OpenUsers() {
        TimedStreams x = fresh();
        x.stage(6, 0, 1);
        x.stage(3, 0, 1);
        x.stage(6, 5, 1);
        x.stage(19, 6, 1);
        x.subscribe(0, 4);
        x.subscribe(1, 7);
        due.same("15: both", x.open(0), 2);
        due.same("15: not begun", x.open(1), 0);
        x.emit(0, 1);
        due.same("15: a user has ended, directly or not", x.open(0), 0);
        due.same("15: an item waits", x.status(0), ACTIVE);
        due.same("15: begun by CONCAT", x.open(1), 1);
        x.stage(20, 0, 1);
        x.stage(17, 0, 8);
        x.restart();
        x.subscribe(0, 9);
        due.same("15: in ZIP", x.open(0), 2);
        due.same("15: of RESUME, not begun", x.open(1), 0);
        x.fail(0, 1);
        due.same("15: ZIP ended with the first of them", x.open(0) + x.open(1), 0);
        x.restart();
        x.subscribe(0, 8);
        x.fail(0, 1);
        due.same("15: begun by RESUME", x.open(1), 1);
        due.same("15: ended", x.open(0), 0);
        x.stage(11, 0, 5);
        x.restart();
        x.subscribe(0, 10);
        x.complete(0);
        due.same("15: ended, though its COMPLETE is on the way", x.open(0), 0);
        due.same("15: still ACTIVE", x.status(0), ACTIVE);
    }

    private static void promise16Restart() {
        TimedStreams x = fresh();
        x.stage(11, 0, 3);
        x.subscribe(0, 0);
        x.subscribe(1, 4);
        x.subscribe(2, 2);
        x.request(0, 5);
        x.emit(0, 1);
        x.emit(0, 2);
        x.complete(0);
        x.fail(1, 2);
        x.advance(2);
        x.restart();
        for (int id = 0; id < 3; id++) {
            due.told("16: no subscriptions", x, id, "NONE");
            due.same("16: open", x.open(id), 0);
            due.same("16: cancel", x.cancel(id), false);
            due.same("16: request", x.request(id, 1), false);
            due.same("16: not ended", x.emit(id, 0), true);
        }
        due.same("16: time", x.advance(0), 0);
        due.same("16: the stages stay", x.subscribe(1, 4), 2);
        due.same("16: and their number", x.stage(2, 0, 0), 5);
        x.request(1, 5);
        x.advance(9);
        due.told("16: what was on the way is gone", x, 1, "ACTIVE +0/5");
        due.same("16: all of the time again", x.advance(191), 200);
        x.restart();
        x.restart();
        due.same("16: twice", x.advance(200), 200);
    }

    private static void promise17Order() {
        TimedStreams x = fresh();
        for (int i = 0; i < 4; i++) {
            x.stage(16, 3 + i, 3 + i);
        }
        due.same("17: FULL", x.subscribe(0, 7), FULL);
        due.same("17: BAD before FULL", x.subscribe(3, 7), BAD);
        due.same("17: BAD before FULL", x.subscribe(-1, 7), BAD);
    }

    private static void waitingItems() {
        TimedStreams x = fresh();
        x.subscribe(0, 0);
        for (int i = 0; i < 8; i++) {
            x.emit(0, i);
        }
        due.told("terms: eight wait", x, 0, "ACTIVE +8/0");
        x.emit(0, 8);
        due.told("terms: a ninth", x, 0, "FAILED 7");
        x.complete(0);
        due.told("terms: nothing changes any more", x, 0, "FAILED 7");
        x.restart();
        x.subscribe(0, 0);
        for (int i = 0; i < 8; i++) {
            x.emit(0, i);
        }
        x.complete(0);
        due.told("terms: an end may come behind eight", x, 0, "ACTIVE +8/0");
        x.request(0, 7);
        due.told("terms: not yet", x, 0, "ACTIVE 0:0 0:1 0:2 0:3 0:4 0:5 0:6 +1/0");
        x.request(0, 7);
        due.told("terms: now", x, 0, "DONE 0:0 0:1 0:2 0:3 0:4 0:5 0:6 0:7");
        x.restart();
        x.subscribe(0, 2);
        x.request(0, 1);
        x.advance(45);
        due.told("terms: eight of an INTERVAL wait", x, 0, "ACTIVE 5:0 +8/0");
        x.advance(5);
        due.told("terms: a ninth by a timer", x, 0, "FAILED 7 5:0");
    }
}
