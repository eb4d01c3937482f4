/** The boundary cases that the promises name: each sentence with just its own cases. */
public final class PromiseEdgesTest {
    private static final Due due = new Due();
    private static final int MOST = Integer.MAX_VALUE, LEAST = Integer.MIN_VALUE;
    private static final long ENDLESS = Long.MAX_VALUE;
    private static final int BAD = TimedStreams.BAD, FULL = TimedStreams.FULL, NONE = TimedStreams.NONE;
    private static final int ACTIVE = TimedStreams.ACTIVE, DONE = TimedStreams.DONE, FAILED = TimedStreams.FAILED;
    private static final int CANCELLED = TimedStreams.CANCELLED;
    private static final int[] NOT_0_TO_2 = {-1, 3, LEAST, MOST};

    public static void main(String[] args) {
        promise1();
        promise2Number();
        promise2Kind();
        promise2Operands();
        promise2Full();
        promise3Whatever();
        promise3NothingIsLeft();
        promise3Parts();
        promise3Bad();
        promise3Full();
        promise4Sum();
        promise4BelowOne();
        promise4None();
        promise4Calls();
        promise5Cancel();
        promise5None();
        promise6Source();
        promise6Ended();
        promise6Calls();
        promise7Complete();
        promise7BeginLater();
        promise8Fail();
        promise8Code();
        promise9Advance();
        promise9Refused();
        promise9Order();
        promise10Status();
        promise11Code();
        promise12Delivered();
        promise13Item();
        promise13None();
        promise14Pending();
        promise14NotActive();
        promise15Open();
        promise16Restart();
        promise16Counts();
        promise17Order();
        due.end();
    }

    /** All that the object tells of itself in one line, to see whether a refused call changed something. */
    private static String state(TimedStreams x) {
        StringBuilder all = new StringBuilder("time " + x.advance(0));
        for (int id = 0; id < 3; id++) {
            all.append(", ").append(Tell.told(x, id)).append(" of ").append(x.delivered(id));
            all.append(" open ").append(x.open(id));
        }
        return all.toString();
    }

    /** Subscription 0 has two items delivered and one that waits, 1 has demand and a timer, 2 is none. */
    private static TimedStreams busy() {
        TimedStreams x = Made.stages(11, 0, 3, 16, 3, 2);
        x.subscribe(0, 0);
        x.subscribe(1, 4);
        x.request(0, 2);
        x.request(1, 20);
        x.advance(4);
        Made.emit(x, 0, 7, 8, 9);
        return x;
    }

    private static void promise1() {
        due.sentence("No stages, no subscriptions, time 0.");
        TimedStreams x = new TimedStreams();
        for (int id = -1; id <= 3; id++) {
            due.same("status " + id, x.status(id), NONE);
            due.same("subscribe to stage " + id, x.subscribe(0, id), BAD);
            due.same("open " + id, x.open(id), 0);
        }
        due.same("a stage that uses none", x.stage(3, 0, 0), BAD);
        due.same("time", x.advance(0), 0);
        due.same("the first stage", x.stage(2, 1, 0), 0);
        due.same("the first stage of another object", new TimedStreams().stage(2, 1, 0), 0);
        for (int s = 0; s < 3; s++) {
            due.same("no source has ended " + s, x.complete(s), true);
        }
        x = new TimedStreams();
        due.same("all of the time is left", x.advance(200), 200);
    }

    private static void promise2Number() {
        due.sentence("Makes a stage; answers its number.");
        TimedStreams x = new TimedStreams();
        due.same("the first", x.stage(0, 1, 0), 0);
        due.same("the second", x.stage(3, 0, 5), 1);
        x.subscribe(0, 1);
        due.same("one while another is subscribed", x.stage(3, 1, 5), 2);
        x.subscribe(1, 2);
        x.request(0, 9);
        x.request(1, 9);
        x.emit(1, 1);
        due.told("the second", x, 0, "ACTIVE 0:6 +0/8");
        due.told("the third", x, 1, "ACTIVE 0:11 +0/8");
    }

    private static void promise2Kind() {
        due.sentence("BAD: kind is not 0..20");
        due.same("kind 0", Made.stages().stage(0, 0, 1), 3);
        due.same("kind 20", Made.stages().stage(20, 0, 1), 3);
        for (int kind : new int[] {-1, 21, LEAST, MOST}) {
            due.same("kind " + kind, Made.stages().stage(kind, 0, 1), BAD);
            due.same("kind " + kind + " without stages", new TimedStreams().stage(kind, 5, 5), BAD);
        }
    }

    private static void promise2Operands() {
        due.sentence("or an operand that the kind uses is not as said (b is any int in 3, 4, 5; in 2 a is)");
        for (int any : new int[] {LEAST, -1, 0, MOST}) {
            due.same("JUST a " + any, Made.stages().stage(2, any, 0), 3);
            for (int kind = 3; kind <= 5; kind++) {
                due.same("kind " + kind + " b " + any, Made.stages().stage(kind, 0, any), 3);
            }
            for (int kind : new int[] {8, 10}) {
                due.same("not used: kind " + kind + " b " + any, Made.stages().stage(kind, 0, any), 3);
            }
            due.same("not used: SOURCE b " + any, Made.stages().stage(0, 0, any), 3);
            due.same("not used: INTERVAL b " + any, Made.stages().stage(1, 5, any), 3);
            due.same("not used: JUST b " + any, Made.stages().stage(2, 0, any), 3);
        }
        TimedStreams x = Made.stages();
        due.same("refused", x.stage(6, 0, 9), BAD);
        due.same("nothing changes: no stage 3", x.subscribe(0, 3), BAD);
        due.same("nothing changes: the next is 3", x.stage(6, 0, 8), 3);
    }

    private static void promise2Full() {
        due.sentence("then FULL: 12 are there; nothing changes");
        TimedStreams x = new TimedStreams();
        for (int i = 0; i < 11; i++) {
            x.stage(0, 0, 0);
        }
        due.same("the twelfth", x.stage(3, 10, 5), 11);
        due.same("a thirteenth", x.stage(3, 11, 7), FULL);
        due.same("there is no stage 12", x.subscribe(0, 12), BAD);
        due.same("BAD first: kind below", x.stage(-1, 0, 0), BAD);
        due.same("BAD first: kind above", x.stage(21, 0, 0), BAD);
        due.same("BAD first: a of SOURCE", x.stage(0, 3, 0), BAD);
        due.same("BAD first: a is no stage", x.stage(3, 12, 0), BAD);
        due.same("BAD first: b of TAKE", x.stage(6, 0, 0), BAD);
        due.same("BAD first: b is no stage", x.stage(16, 0, 12), BAD);
        due.same("the twelfth is there", x.subscribe(0, 11), 2);
        x.request(0, 1);
        x.emit(0, 1);
        due.told("the twelfth is as it was", x, 0, "ACTIVE 0:6 +0/0");
    }

    private static void promise3Whatever() {
        due.sentence("Subscribes id to a stage, whatever it was before (an ACTIVE one is given up for it)");
        for (int before : new int[] {NONE, ACTIVE, DONE, FAILED, CANCELLED}) {
            TimedStreams x = Made.stages(2, 4, 0, 12, 0, 3);
            if (before != NONE) {
                x.subscribe(1, before == DONE ? 3 : 4);
                x.request(1, before == DONE ? 1 : 5);
                x.emit(0, 1);
            }
            if (before == FAILED) {
                x.request(1, -1);
            }
            if (before == CANCELLED) {
                x.cancel(1);
            }
            due.same("before", x.status(1), before);
            due.same("answers", x.subscribe(1, 4), 2);
            due.told("ACTIVE, without demand, nothing delivered", x, 1, "ACTIVE +0/0");
            due.same("no code", x.code(1), 0);
            due.same("no item", x.item(1, 0), -1);
            due.same("its own part alone is open", x.open(0), 1);
            x.request(1, 5);
            x.advance(9);
            due.told("nothing of the old one is left", x, 1, "ACTIVE +0/5");
            x.emit(0, 2);
            x.advance(3);
            due.told("it hears the new stage", x, 1, "ACTIVE 12:2 +0/4");
        }
        TimedStreams x = Made.stages();
        x.subscribe(0, 0);
        Made.emitUpTo(x, 0, 8);
        x.complete(0);
        x.subscribe(0, 1);
        Made.emitUpTo(x, 1, 8);
        due.told("what waited, and the end behind it, are gone", x, 0, "ACTIVE +8/0");
    }

    private static void promise3NothingIsLeft() {
        due.sentence("whatever it was before (an ACTIVE one is given up for it)");
        for (int kind = 3; kind <= 20; kind++) {
            int b = kind == 9 ? 2 : kind == 13 ? 30 : 1;
            for (int s = 0; s < 2; s++) {
                TimedStreams used = Made.stages(kind, 0, b);
                used.subscribe(0, 3);
                used.request(0, 9);
                Made.emit(used, 0, 5, 6);
                Made.emit(used, 1, 5);
                used.advance(1);
                Made.emit(used, 0, 6, 5, 5);
                TimedStreams unused = Made.stages(kind, 0, b);
                unused.advance(1);
                due.same("a part of kind " + kind + " is as if it were new", playOn(used, s), playOn(unused, s));
            }
        }
    }

    /** What 0 tells of stage 3 after each of some calls, the first of them to source s, if it subscribes to it now. */
    private static String playOn(TimedStreams x, int s) {
        x.subscribe(0, 3);
        x.request(0, ENDLESS);
        x.advance(1);
        StringBuilder all = new StringBuilder(Tell.items(x, 0));
        for (int i = 0; i < 3; i++) {
            x.emit(s, i);
            all.append(", ").append(Tell.items(x, 0));
            x.emit(1 - s, i);
            all.append(", ").append(Tell.items(x, 0));
            x.advance(i);
        }
        x.complete(s);
        all.append(", ").append(Tell.items(x, 0));
        x.complete(1 - s);
        x.advance(1);
        return all.append(", ").append(Tell.items(x, 0)).toString();
    }

    private static void promise3Parts() {
        due.sentence("Answers the number of parts.");
        TimedStreams x = Made.stages(3, 0, 1, 16, 3, 3, 19, 4, 0, 20, 5, 0);
        due.same("one", x.subscribe(0, 0), 1);
        due.same("two", x.subscribe(0, 3), 2);
        due.same("five", x.subscribe(0, 4), 5);
        due.same("seven", x.subscribe(0, 5), 7);
        due.same("nine", x.subscribe(0, 6), 9);
        due.same("two sources of it have begun", x.open(0), 2);
    }

    private static void promise3Bad() {
        due.sentence("BAD: id is not 0..2, or there is no such stage");
        for (int id : NOT_0_TO_2) {
            TimedStreams x = busy();
            String before = state(x);
            due.same("id " + id, x.subscribe(id, 0), BAD);
            due.same("nothing changes", state(x), before);
        }
        for (int stage : new int[] {-1, 5, LEAST, MOST}) {
            TimedStreams x = busy();
            String before = state(x);
            due.same("stage " + stage, x.subscribe(0, stage), BAD);
            due.same("nothing changes", state(x), before);
        }
        TimedStreams x = busy();
        due.same("id 0", x.subscribe(0, 0), 1);
        due.same("id 2", x.subscribe(2, 0), 1);
        due.same("the last stage", x.subscribe(0, 4), 4);
    }

    private static void promise3Full() {
        due.sentence("FULL: it has more than 9 parts; nothing changes then");
        TimedStreams x = busy();
        x.stage(16, 4, 4);
        x.stage(3, 5, 0);
        due.same("nine", x.subscribe(2, 5), 9);
        x.request(2, 1);
        String before = state(x);
        due.same("ten", x.subscribe(2, 6), FULL);
        due.same("ten for another", x.subscribe(0, 6), FULL);
        due.same("nothing changes", state(x), before);
        x.advance(1);
        due.told("the nine go on", x, 2, "ACTIVE +0/1");
        x.advance(4);
        due.told("the nine go on", x, 2, "ACTIVE 9:0 +1/0");
        x = Made.stages();
        for (int stage = 3; stage < 12; stage++) {
            x.stage(16, stage - 1, stage - 1);
        }
        due.same("the most that twelve stages can have", x.subscribe(0, 11), FULL);
        due.same("nothing changes", x.status(0), NONE);
    }

    private static void promise4Sum() {
        due.sentence("Adds n to the demand (at most 9223372036854775807) and answers true");
        TimedStreams x = Made.stages();
        x.subscribe(0, 0);
        due.same("1", x.request(0, 1), true);
        due.same("demand", x.pending(0), 1);
        due.same("2 more", x.request(0, 2), true);
        due.same("demand", x.pending(0), 3);
        long[][] sums = {{ENDLESS, 1}, {ENDLESS, ENDLESS}, {ENDLESS - 1, 1}, {ENDLESS - 1, 2}, {1, ENDLESS}, {2, ENDLESS - 1}};
        for (long[] sum : sums) {
            x = Made.stages();
            x.subscribe(0, 0);
            due.same("the first of them", x.request(0, sum[0]), true);
            due.same("the second of them", x.request(0, sum[1]), true);
            due.same("demand of " + sum[0] + " and " + sum[1], x.pending(0), 15);
            Made.emitUpTo(x, 0, 20);
            due.same("delivered of " + sum[0] + " and " + sum[1], x.delivered(0), 20);
            due.same("demand is left of " + sum[0] + " and " + sum[1], x.pending(0), 15);
        }
        x = Made.stages();
        x.subscribe(0, 0);
        x.request(0, 1L << 32);
        due.same("a demand above all ints", x.pending(0), 15);
    }

    private static void promise4BelowOne() {
        due.sentence("if n is below 1 the subscription is FAILED with code 6 at once, what waits is gone; true");
        for (long n : new long[] {0, -1, Long.MIN_VALUE}) {
            TimedStreams x = Made.stages();
            x.subscribe(0, 0);
            x.request(0, 1);
            Made.emitUpTo(x, 0, 3);
            due.told("two wait", x, 0, "ACTIVE 0:1 +2/0");
            due.same("n " + n, x.request(0, n), true);
            due.told("FAILED", x, 0, "FAILED 6 0:1");
            due.same("what waits", x.pending(0), 0);
            due.same("nothing is open", x.open(0), 0);
            x = Made.stages();
            x.subscribe(0, 0);
            x.emit(0, 1);
            x.complete(0);
            due.same("before an end that waits", x.request(0, n), true);
            due.told("FAILED, not DONE", x, 0, "FAILED 6");
            x = Made.stages();
            x.subscribe(0, 0);
            x.request(0, 5);
            due.same("with demand", x.request(0, n), true);
            due.told("FAILED", x, 0, "FAILED 6");
        }
        TimedStreams x = Made.stages();
        x.subscribe(0, 0);
        x.emit(0, 1);
        due.same("n 1", x.request(0, 1), true);
        due.told("1 is not below 1", x, 0, "ACTIVE 0:1 +0/0");
    }

    private static void promise4None() {
        due.sentence("False, and nothing changes, if id is none or not ACTIVE");
        TimedStreams x = busy();
        String before = state(x);
        for (int id : NOT_0_TO_2) {
            due.same("id " + id, x.request(id, 1), false);
            due.same("id " + id + ", below 1", x.request(id, 0), false);
        }
        due.same("never subscribed", x.request(2, 1), false);
        due.same("never subscribed, below 1", x.request(2, 0), false);
        due.same("nothing changes", state(x), before);
        x.cancel(0);
        due.same("CANCELLED", x.request(0, 1), false);
        due.same("CANCELLED, below 1", x.request(0, 0), false);
        due.told("nothing changes", x, 0, "CANCELLED 4:7 4:8");
        x.request(1, 0);
        due.same("FAILED", x.request(1, 1), false);
        due.same("FAILED, below 1", x.request(1, 0), false);
        due.told("nothing changes", x, 1, "FAILED 6");
        x.subscribe(0, 0);
        x.complete(0);
        due.same("DONE", x.request(0, 1), false);
        due.same("DONE, below 1", x.request(0, 0), false);
        due.told("nothing changes", x, 0, "DONE");
    }

    private static void promise4Calls() {
        due.sentence("or it has had 32 calls of request");
        TimedStreams x = Made.stages();
        x.subscribe(0, 0);
        x.subscribe(1, 0);
        for (int i = 1; i <= 31; i++) {
            x.request(0, 1);
        }
        due.same("the 32nd", x.request(0, 1), true);
        due.same("the 33rd", x.request(0, 1), false);
        due.same("the 33rd, below 1", x.request(0, 0), false);
        due.same("nothing changes", x.status(0), ACTIVE);
        Made.emitUpTo(x, 0, 32);
        due.same("a demand of 32", x.delivered(0), 32);
        due.same("all of it is used", x.pending(0), 0);
        x = Made.stages();
        x.subscribe(0, 0);
        x.subscribe(1, 0);
        for (int i = 1; i <= 32; i++) {
            x.request(0, 1);
        }
        due.same("another has had none", x.request(1, 1), true);
        x.subscribe(0, 0);
        due.same("a new one has had none", x.request(0, 1), true);
        x = Made.stages();
        x.subscribe(0, 0);
        for (int i = 1; i <= 31; i++) {
            x.request(0, 1);
        }
        due.same("the 32nd may be below 1", x.request(0, 0), true);
        due.told("and fails", x, 0, "FAILED 6");
        x = Made.stages();
        x.subscribe(0, 0);
        Made.emitUpTo(x, 0, 4);
        for (int i = 1; i <= 32; i++) {
            x.request(0, 1);
        }
        x.cancel(0);
        due.same("cancel is no request", x.status(0), CANCELLED);
    }

    private static void promise5Cancel() {
        due.sentence("The subscription is CANCELLED, what waits is gone: true");
        TimedStreams x = busy();
        due.told("one waits", x, 0, "ACTIVE 4:7 4:8 +1/0");
        due.same("cancel", x.cancel(0), true);
        due.told("CANCELLED", x, 0, "CANCELLED 4:7 4:8");
        due.same("what waits", x.pending(0), 0);
        due.same("no code", x.code(0), 0);
        due.told("another is not", x, 1, "ACTIVE +0/15");
        x = Made.stages();
        x.subscribe(0, 0);
        x.emit(0, 1);
        x.fail(0, 5);
        due.same("before an end that waits", x.cancel(0), true);
        due.told("not FAILED", x, 0, "CANCELLED");
        due.same("no code", x.code(0), 0);
    }

    private static void promise5None() {
        due.sentence("false if id is none or not ACTIVE");
        TimedStreams x = busy();
        String before = state(x);
        for (int id : NOT_0_TO_2) {
            due.same("id " + id, x.cancel(id), false);
        }
        due.same("never subscribed", x.cancel(2), false);
        due.same("nothing changes", state(x), before);
        x.cancel(1);
        due.same("CANCELLED", x.cancel(1), false);
        x.request(0, -5);
        due.same("FAILED", x.cancel(0), false);
        due.told("stays FAILED", x, 0, "FAILED 6 4:7 4:8");
        x.subscribe(2, 1);
        x.complete(1);
        due.same("DONE", x.cancel(2), false);
        due.told("stays DONE", x, 2, "DONE");
    }

    private static void promise6Source() {
        due.sentence("False, and nothing changes, if s is not 0..2");
        TimedStreams x = busy();
        String before = state(x);
        for (int s : NOT_0_TO_2) {
            due.same("emit to " + s, x.emit(s, 1), false);
            due.same("complete " + s, x.complete(s), false);
            due.same("fail " + s, x.fail(s, 1), false);
        }
        due.same("nothing changes", state(x), before);
        for (int s = 0; s <= 2; s++) {
            due.same("emit to " + s, x.emit(s, 1), true);
            due.same("complete or fail " + s, s == 1 ? x.fail(s, 1) : x.complete(s), true);
        }
    }

    private static void promise6Ended() {
        due.sentence("it has ended");
        for (int how = 0; how < 2; how++) {
            TimedStreams x = busy();
            due.same("ends", how == 0 ? x.complete(0) : x.fail(0, 1), true);
            x.subscribe(2, 0);
            String before = state(x);
            due.same("emit", x.emit(0, 1), false);
            due.same("complete", x.complete(0), false);
            due.same("fail", x.fail(0, 1), false);
            due.same("nothing changes", state(x), before);
            due.same("another has not", x.emit(1, 1), true);
            x.restart();
            due.same("not ended after a restart", x.emit(0, 1), true);
        }
    }

    private static void promise6Calls() {
        due.sentence("or 32 calls of emit, complete and fail were taken since the last restart");
        for (int last = 0; last < 3; last++) {
            TimedStreams x = Made.with(0, 0, 0);
            x.fail(2, 1);
            x.complete(1);
            Made.emitUpTo(x, 0, 29);
            due.same("not taken: source", x.emit(3, 0), false);
            due.same("not taken: ended", x.emit(1, 0), false);
            due.same("not taken: ended", x.complete(2), false);
            due.same("not taken: code", x.fail(0, 6), false);
            due.same("the 32nd", last == 0 ? x.emit(0, 30) : last == 1 ? x.complete(0) : x.fail(0, 1), true);
        }
        TimedStreams x = Made.with(0, 0, 0);
        Made.emitUpTo(x, 0, 32);
        due.same("32 were taken", x.delivered(0), 32);
        due.same("a 33rd emit", x.emit(0, 33), false);
        due.same("a 33rd complete", x.complete(0), false);
        due.same("a 33rd fail", x.fail(0, 1), false);
        due.same("to another source", x.emit(1, 33), false);
        due.same("nothing changes", x.delivered(0), 32);
        due.same("nothing changes", x.status(0), ACTIVE);
        x.restart();
        x.subscribe(0, 0);
        x.request(0, ENDLESS);
        Made.emitUpTo(x, 0, 31);
        due.same("the 32nd since the restart", x.emit(0, 32), true);
        due.same("a 33rd since the restart", x.emit(0, 33), false);
        due.same("32 since the restart", x.delivered(0), 32);
    }

    private static void promise7Complete() {
        due.sentence("Ends source s with COMPLETE; false likewise.");
        TimedStreams x = Made.stages();
        for (int id = 0; id < 3; id++) {
            x.subscribe(id, id == 2 ? 1 : 0);
        }
        due.same("complete", x.complete(0), true);
        due.same("every part of it", x.status(0) + x.status(1), DONE + DONE);
        due.same("no part of another", x.status(2), ACTIVE);
        due.same("twice", x.complete(0), false);
        due.same("a source that nobody hears", x.complete(2), true);
        due.same("it has ended all the same", x.emit(2, 1), false);
    }

    private static void promise7BeginLater() {
        due.sentence("Parts that begin later hear nothing of it.");
        TimedStreams x = Made.stages(19, 1, 0);
        x.subscribe(0, 3);
        x.complete(0);
        x.subscribe(1, 0);
        due.told("by subscribe", x, 1, "ACTIVE +0/0");
        due.same("it is open", x.open(0), 1);
        x.complete(1);
        due.told("by CONCAT", x, 0, "ACTIVE +0/0");
        due.same("it is open", x.open(0), 2);
        x.advance(200);
        due.told("nor later", x, 0, "ACTIVE +0/0");
        x = Made.stages();
        x.fail(0, 1);
        x.subscribe(0, 0);
        due.told("of a fail neither", x, 0, "ACTIVE +0/0");
    }

    private static void promise8Fail() {
        due.sentence("Ends source s with an ERROR; false likewise");
        TimedStreams x = Made.stages();
        for (int id = 0; id < 3; id++) {
            x.subscribe(id, id == 2 ? 1 : 0);
        }
        due.same("fail", x.fail(0, 3), true);
        due.same("every part of it", x.code(0) + x.code(1), 6);
        due.same("no part of another", x.status(2), ACTIVE);
        due.same("twice", x.fail(0, 3), false);
    }

    private static void promise8Code() {
        due.sentence("or if code is not 1..5");
        for (int code : new int[] {1, 5}) {
            TimedStreams x = Made.with(0, 0, 0);
            due.same("code " + code, x.fail(0, code), true);
            due.told("FAILED", x, 0, "FAILED " + code);
        }
        for (int code : new int[] {0, 6, -1, LEAST, MOST}) {
            TimedStreams x = busy();
            String before = state(x);
            due.same("code " + code, x.fail(0, code), false);
            due.same("nothing changes", state(x), before);
            due.same("it has not ended", x.emit(0, 1), true);
        }
    }

    private static void promise9Advance() {
        due.sentence("Answers the time.");
        TimedStreams x = Made.stages();
        due.same("by 0", x.advance(0), 0);
        due.same("by 1", x.advance(1), 1);
        due.same("by more", x.advance(98), 99);
        due.same("by 0", x.advance(0), 99);
        due.same("to the last time", x.advance(101), 200);
        due.same("by 0 at the last time", x.advance(0), 200);
        due.same("all at once", Made.stages().advance(200), 200);
    }

    private static void promise9Refused() {
        due.sentence("d is below 0, or the time would be above 200: BAD, and nothing changes.");
        for (int d : new int[] {-1, 197, LEAST, MOST, MOST - 3}) {
            TimedStreams x = busy();
            String before = state(x);
            due.same("by " + d + " at 4", x.advance(d), BAD);
            due.same("nothing changes", state(x), before);
            due.same("the time goes on", x.advance(1), 5);
            due.told("and its timers", x, 1, "ACTIVE 5:0 +0/15");
        }
        due.same("by 196 at 4", busy().advance(196), 200);
        TimedStreams x = Made.stages();
        due.same("by 201 at 0", x.advance(201), BAD);
        x.advance(200);
        due.same("by 1 at 200", x.advance(1), BAD);
        due.same("by -1 at 200", x.advance(-1), BAD);
        due.same("by the greatest at 200", x.advance(MOST), BAD);
        due.same("nothing changes", x.advance(0), 200);
    }

    private static void promise9Order() {
        due.sentence("Time goes on by d, with all timers in the order of their moments.");
        TimedStreams x = Made.with(1, 7, 0, 3, 2, 10, 16, 3, 4);
        x.advance(35);
        due.items("in one call", x, "ACTIVE 5:10 7:0 10:11 14:1 15:12 20:13 21:2 25:14 28:3 30:15 35:4 35:16");
        TimedStreams y = Made.with(1, 7, 0, 3, 2, 10, 16, 3, 4);
        for (int i = 0; i < 35; i++) {
            y.advance(1);
        }
        due.same("step by step", Tell.items(y, 0), Tell.items(x, 0));
        x = Made.with(11, 2, 2, 12, 3, 1, 14, 4, 4);
        x.advance(12);
        due.items("timers that set others within one call", x, "ACTIVE 8:0");
    }

    private static void promise10Status() {
        due.sentence("NONE if id was never subscribed since the last restart, or is not 0..2");
        TimedStreams x = Made.stages();
        for (int id = 0; id <= 2; id++) {
            due.same("never", x.status(id), NONE);
            x.subscribe(id, 5);
            due.same("a refused subscribe", x.status(id), NONE);
            x.subscribe(id, 0);
            due.same("once", x.status(id), ACTIVE);
        }
        for (int id : NOT_0_TO_2) {
            due.same("id " + id, x.status(id), NONE);
        }
        x.cancel(0);
        x.request(1, 0);
        x.complete(0);
        due.same("CANCELLED", x.status(0), CANCELLED);
        due.same("FAILED", x.status(1), FAILED);
        due.same("DONE", x.status(2), DONE);
        x.restart();
        for (int id = 0; id <= 2; id++) {
            due.same("since the restart", x.status(id), NONE);
        }
    }

    private static void promise11Code() {
        due.sentence("The code if it FAILED, else 0.");
        TimedStreams x = Made.stages(11, 0, 9, 15, 1, 9);
        for (int id = -1; id <= 3; id++) {
            due.same("none", x.code(id), 0);
        }
        for (int id = 0; id <= 2; id++) {
            x.subscribe(id, id == 0 ? 0 : id + 2);
        }
        due.same("ACTIVE", x.code(0) + x.code(1) + x.code(2), 0);
        Made.emitUpTo(x, 0, 9);
        x.advance(9);
        due.same("of a ninth that waits for demand", x.code(0), 7);
        due.same("of a ninth in a DELAY", x.code(1), 8);
        due.same("of a LIMIT", x.code(2), 9);
        x.subscribe(0, 0);
        due.same("ACTIVE again", x.code(0), 0);
        x.subscribe(2, 1);
        x.request(2, 0);
        due.same("of a request", x.code(2), 6);
        x.emit(0, 1);
        x.fail(0, 5);
        due.same("an ERROR behind an item that waits", x.code(0), 0);
        x.request(0, 1);
        due.same("of a source", x.code(0), 5);
        x.restart();
        due.same("since the restart", x.code(0) + x.code(1) + x.code(2), 0);
        x.subscribe(0, 0);
        x.complete(0);
        due.same("DONE", x.code(0), 0);
    }

    private static void promise12Delivered() {
        due.sentence("How many items were delivered to it; 0 if there is no such subscription.");
        TimedStreams x = Made.stages();
        for (int id : new int[] {-1, 0, 1, 2, 3, LEAST, MOST}) {
            due.same("id " + id, x.delivered(id), 0);
        }
        x.subscribe(0, 0);
        x.emit(0, 1);
        due.same("one waits", x.delivered(0), 0);
        x.request(0, 31);
        due.same("one", x.delivered(0), 1);
        Made.emitUpTo(x, 0, 31);
        due.same("one waits behind 31", x.delivered(0), 31);
        x.request(0, 1);
        due.same("more than item tells", x.delivered(0), 32);
        x.cancel(0);
        due.same("after its end", x.delivered(0), 32);
        x.subscribe(0, 2);
        due.same("of a new one", x.delivered(0), 0);
        x.request(0, ENDLESS);
        x.advance(200);
        due.same("of timers", x.delivered(0), 40);
        x.restart();
        due.same("since the restart", x.delivered(0), 0);
    }

    private static void promise13Item() {
        due.sentence("(its time when it was delivered << 32) + (the item as 32 bits without sign)");
        TimedStreams x = Made.stages();
        x.subscribe(0, 0);
        for (int v : new int[] {0, 1, MOST, LEAST, -1}) {
            x.emit(0, v);
        }
        x.request(0, 1);
        due.same("0 at 0", x.item(0, 0), 0L);
        x.advance(1);
        x.request(0, 1);
        due.same("1 at 1, not at 0 when it came", x.item(0, 0), 0x100000001L);
        x.advance(199);
        x.request(0, 1);
        due.same("the greatest at 200", x.item(0, 0), 0xC87FFFFFFFL);
        x.request(0, 1);
        due.same("the least at 200", x.item(0, 0), 0xC880000000L);
        x.request(0, 1);
        due.same("-1 at 200", x.item(0, 0), 0xC8FFFFFFFFL);
        x = Made.with(0, 0, 0);
        x.emit(0, -1);
        due.same("-1 at 0 is not none", x.item(0, 0), 0xFFFFFFFFL);
    }

    private static void promise13None() {
        due.sentence("-1 if there was none, or k is not 0..15");
        TimedStreams x = Made.with(0, 0, 0);
        due.same("none yet", x.item(0, 0), -1);
        for (int n = 1; n <= 18; n++) {
            x.emit(0, n);
            int kept = Math.min(n, 16);
            due.same("the latest of " + n, x.item(0, 0), n);
            due.same("the oldest that is told of " + n, x.item(0, kept - 1), n - kept + 1);
            due.same("one more of " + n, x.item(0, kept), -1);
        }
        for (int k : new int[] {-1, 16, 17, LEAST, MOST}) {
            due.same("k " + k, x.item(0, k), -1);
        }
        for (int id : new int[] {-1, 1, 2, 3, LEAST, MOST}) {
            due.same("id " + id, x.item(id, 0), -1);
        }
        x.cancel(0);
        due.same("after its end", x.item(0, 15), 3);
        x.subscribe(0, 0);
        due.same("of a new one", x.item(0, 0), -1);
        x.request(0, 1);
        x.emit(0, 50);
        due.same("the first of a new one", x.item(0, 0), 50);
        due.same("none of the old one's", x.item(0, 1), -1);
        x.restart();
        due.same("since the restart", x.item(0, 0), -1);
    }

    private static void promise14Pending() {
        due.sentence("16 times the number of items that wait, plus the demand but at most 15");
        TimedStreams x = Made.stages();
        x.subscribe(0, 0);
        due.same("nothing", x.pending(0), 0);
        x.request(0, 14);
        due.same("14", x.pending(0), 14);
        x.request(0, 1);
        due.same("15", x.pending(0), 15);
        x.request(0, 1);
        due.same("16", x.pending(0), 15);
        x.emit(0, 1);
        due.same("15 of 16 are left", x.pending(0), 15);
        x.emit(0, 1);
        due.same("14 of 16 are left", x.pending(0), 14);
        x.request(0, ENDLESS);
        due.same("the greatest", x.pending(0), 15);
        x.subscribe(0, 0);
        for (int n = 1; n <= 8; n++) {
            x.emit(0, n);
            due.same("as many wait: " + n, x.pending(0), 16 * n);
        }
        x.request(0, 7);
        due.same("one waits", x.pending(0), 16);
        x.request(0, 9);
        due.same("none waits", x.pending(0), 8);
    }

    private static void promise14NotActive() {
        due.sentence("0 if it is not ACTIVE");
        TimedStreams x = Made.stages();
        for (int id : new int[] {-1, 0, 1, 2, 3, LEAST, MOST}) {
            due.same("id " + id, x.pending(id), 0);
        }
        for (int id = 0; id <= 2; id++) {
            x.subscribe(id, id == 2 ? 1 : 0);
        }
        x.request(2, 5);
        x.emit(0, 1);
        x.cancel(0);
        x.request(1, 0);
        x.complete(1);
        due.same("CANCELLED with an item", x.pending(0), 0);
        due.same("FAILED with an item", x.pending(1), 0);
        due.same("DONE with demand", x.pending(2), 0);
        x.subscribe(0, 0);
        Made.emitUpTo(x, 0, 9);
        due.same("FAILED with eight", x.pending(0), 0);
        x.restart();
        due.same("since the restart", x.pending(0), 0);
    }

    private static void promise15Open() {
        due.sentence("How many parts of kind SOURCE with operand s are open, in all subscriptions.");
        TimedStreams x = Made.stages(0, 2, 0, 16, 0, 0, 16, 4, 4, 16, 1, 3, 1, 50, 0, 2, 0, 0);
        for (int s : new int[] {-1, 0, 1, 2, 3, LEAST, MOST}) {
            due.same("none of " + s, x.open(s), 0);
        }
        x.subscribe(0, 4);
        due.same("two in one subscription", x.open(0), 2);
        x.subscribe(1, 5);
        x.subscribe(2, 5);
        due.same("ten in three subscriptions", x.open(0), 10);
        x.subscribe(2, 6);
        due.same("of source 0", x.open(0), 6);
        due.same("of source 1", x.open(1), 1);
        due.same("of source 2", x.open(2), 1);
        for (int s : NOT_0_TO_2) {
            due.same("of " + s, x.open(s), 0);
        }
        x.subscribe(0, 7);
        x.subscribe(1, 8);
        due.same("INTERVAL 50 and JUST 0 are none", x.open(0), 0);
        due.same("nor of 50", x.open(50), 0);
    }

    private static void promise16Restart() {
        due.sentence("No subscriptions, time 0, all sources not ended; the stages stay.");
        TimedStreams x = busy();
        x.subscribe(2, 3);
        x.complete(0);
        x.fail(1, 1);
        x.complete(2);
        x.restart();
        for (int id = 0; id <= 2; id++) {
            due.told("subscription " + id, x, id, "NONE");
            due.same("item", x.item(id, 0), -1);
            due.same("delivered", x.delivered(id) + x.pending(id) + x.code(id) + x.open(id), 0);
            due.same("request", x.request(id, 1), false);
            due.same("cancel", x.cancel(id), false);
            due.same("source " + id, x.emit(id, 1), true);
        }
        due.same("time", x.advance(0), 0);
        due.same("the stages stay", x.subscribe(1, 4), 4);
        due.same("the next stage", x.stage(2, 1, 0), 5);
        x.request(1, 9);
        x.emit(0, 6);
        x.advance(5);
        due.told("and are as they were", x, 1, "ACTIVE 3:6 5:0 +0/7");
        x.advance(195);
        x.restart();
        due.same("all of the time again", x.advance(200), 200);
        x = new TimedStreams();
        x.restart();
        due.same("of a new object", x.stage(2, 1, 0), 0);
        for (int i = 1; i < 12; i++) {
            x.stage(2, 1, 0);
        }
        x.restart();
        due.same("twelve stages stay", x.stage(2, 1, 0), FULL);
    }

    private static void promise16Counts() {
        due.sentence("No subscriptions");
        TimedStreams x = Made.with(0, 0, 0);
        for (int i = 1; i < 32; i++) {
            x.request(0, 1);
        }
        due.same("32 requests", x.request(0, 1), false);
        x.restart();
        x.subscribe(0, 0);
        due.told("no demand is left", x, 0, "ACTIVE +0/0");
        due.same("it has had no request", x.request(0, 1), true);
    }

    private static void promise17Order() {
        due.sentence("subscribe: BAD is tested before FULL.");
        TimedStreams x = Made.stages(16, 2, 2, 16, 3, 3, 16, 4, 4);
        due.same("FULL", x.subscribe(0, 5), FULL);
        for (int id : NOT_0_TO_2) {
            due.same("id " + id, x.subscribe(id, 5), BAD);
        }
    }
}
