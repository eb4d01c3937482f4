/** The boundary cases that the document names with moments, parts, subscriptions and what is open. */
public final class TermsEdgesTest {
    private static final Due due = new Due();
    private static final long ENDLESS = Long.MAX_VALUE;
    private static final int BAD = TimedStreams.BAD, FULL = TimedStreams.FULL;

    public static void main(String[] args) {
        calls();
        time();
        timersBeforeCalls();
        timersByPart();
        itemsOfOnePart();
        callsByOrder();
        callsByPart();
        parts();
        subscriptions();
        roomOfEach();
        lastPart();
        beginning();
        demand();
        endlessDemand();
        eightWait();
        ninthLost();
        endBehindItems();
        oldestFirst();
        nothingChangesAnyMore();
        openBegunAndNotEnded();
        openActive();
        openUsers();
        due.end();
    }

    private static void calls() {
        due.sentence("An object is used for at most 512 calls after it has been made");
        TimedStreams x = Made.stages();
        int made = 3;
        while (made < 506) {
            x.subscribe(2, 2);
            x.request(2, ENDLESS);
            x.advance(200);
            x.emit(0, 1);
            x.restart();
            made += 5;
        }
        due.same("made so far", made, 508);
        x.subscribe(2, 2);
        x.request(2, ENDLESS);
        x.advance(200);
        due.same("the 512th", x.item(2, 0), (200L << 32) + 39);
    }

    private static void time() {
        due.sentence("TIME is an int, 0 at first; advance() lets it go on.");
        TimedStreams x = Made.with(0, 0, 0);
        x.emit(0, 1);
        due.items("at first", x, "ACTIVE 0:1");
        x.advance(1);
        x.emit(0, 2);
        due.items("a step on", x, "ACTIVE 0:1 1:2");
        x.advance(199);
        x.emit(0, 3);
        due.items("as far as it goes", x, "ACTIVE 0:1 1:2 200:3");
    }

    private static void timersBeforeCalls() {
        due.sentence("at one time all moments of TIMERS come before all moments of CALLS");
        TimedStreams x = Made.with(16, 0, 2);
        x.advance(4);
        x.emit(0, 7);
        x.advance(1);
        x.emit(0, 8);
        due.items("calls at 4 and at 5, a timer at 5", x, "ACTIVE 4:7 5:0 5:8");
        x = Made.with(18, 0, 2);
        x.emit(0, 1);
        x.advance(5);
        x.emit(0, 2);
        due.items("LATEST: the timer's item finds the call before", x, "ACTIVE 5:31 5:62");
        x = Made.stages();
        x.advance(5);
        x.subscribe(0, 2);
        x.request(0, 9);
        x.advance(0);
        due.items("a beginning in a call has no timer at its own time", x, "ACTIVE");
    }

    private static void timersByPart() {
        due.sentence("Moments of timers at one time are ordered by the number of the part whose timer it is");
        TimedStreams x = Made.stages(1, 30, 0, 1, 15, 0, 1, 10, 0, 1, 6, 0, 16, 3, 2, 16, 7, 4, 16, 8, 6, 16, 9, 5);
        due.same("nine parts", x.subscribe(0, 10), 9);
        x.request(0, ENDLESS);
        x.advance(30);
        int[] inOrder = {0, 5, 1, 4, 2};
        for (int k = 0; k < 5; k++) {
            due.same("timers of the times 30, 5, 15, 6, 10: " + k, x.item(0, 4 - k), (30L << 32) + inOrder[k]);
        }
        x = Made.with(11, 0, 5, 16, 3, 2);
        x.emit(0, 70);
        x.advance(5);
        due.items("DELAY is part 1, INTERVAL part 2", x, "ACTIVE 5:70 5:0");
        x = Made.with(11, 0, 5, 16, 2, 3);
        x.emit(0, 70);
        x.advance(5);
        due.items("INTERVAL is part 0, DELAY part 2", x, "ACTIVE 5:0 5:70");
    }

    private static void itemsOfOnePart() {
        due.sentence("several items of one part at such a moment keep their order");
        TimedStreams x = Made.with(11, 0, 3);
        Made.emit(x, 0, 5, 3, 8, 1, 8, 2, 7, 4);
        x.advance(3);
        due.items("eight of a DELAY", x, "ACTIVE 3:5 3:3 3:8 3:1 3:8 3:2 3:7 3:4");
        x = Made.with(11, 0, 3, 6, 3, 2, 19, 4, 2);
        Made.emit(x, 0, 5, 3, 8);
        x.advance(8);
        due.items("only as far as a TAKE takes", x, "ACTIVE 3:5 3:3 8:0");
    }

    private static void callsByOrder() {
        due.sentence("Moments of calls are ordered by the calls");
        TimedStreams x = Made.with(16, 0, 1);
        x.emit(1, 1);
        x.emit(0, 2);
        x.emit(1, 3);
        due.items("at one time", x, "ACTIVE 0:1 0:2 0:3");
    }

    private static void callsByPart() {
        due.sentence("within one call by the number of the part by which the call came in");
        TimedStreams x = Made.with(3, 0, 10, 16, 3, 0);
        x.emit(0, 1);
        due.items("ADD's source is part 0", x, "ACTIVE 0:11 0:1");
        x = Made.with(3, 0, 10, 16, 0, 3);
        x.emit(0, 1);
        due.items("ADD's source is part 1", x, "ACTIVE 0:1 0:11");
        x = Made.with(18, 0, 0);
        Made.emit(x, 0, 1, 2);
        due.items("LATEST of a source with itself", x, "ACTIVE 0:32 0:63 0:64");
        x = Made.with(6, 0, 1, 16, 3, 0, 6, 4, 2);
        x.emit(0, 1);
        due.items("the second part ends what the first began", x, "DONE 0:1 0:1");
    }

    private static void parts() {
        due.sentence("a stage that is used twice has two parts");
        TimedStreams x = Made.stages(3, 0, 1, 16, 3, 3, 17, 4, 3, 19, 4, 5);
        due.same("a SOURCE", x.subscribe(0, 0), 1);
        due.same("an INTERVAL", x.subscribe(0, 2), 1);
        due.same("an ADD and its SOURCE", x.subscribe(0, 3), 2);
        due.same("a MERGE of it twice", x.subscribe(0, 4), 5);
        due.same("two sources", x.open(0), 2);
        due.same("a ZIP with it once more", x.subscribe(0, 5), 8);
        due.same("three sources", x.open(0), 3);
        due.same("too many", x.subscribe(0, 6), FULL);
        due.same("a JUST", x.stage(2, 1, 0), 7);
        due.same("a JUST has a part", x.subscribe(0, 7), 1);
    }

    private static void subscriptions() {
        due.sentence("SUBSCRIPTIONS 0..2.");
        for (int id = 0; id <= 2; id++) {
            due.same("id " + id, Made.stages().subscribe(id, 0), 1);
        }
        for (int id : new int[] {-1, 3, Integer.MIN_VALUE, Integer.MAX_VALUE}) {
            due.same("id " + id, Made.stages().subscribe(id, 0), BAD);
        }
        TimedStreams x = Made.stages();
        for (int id = 0; id <= 2; id++) {
            x.subscribe(id, 0);
            x.request(id, id);
            x.request(id, 1 + id);
        }
        x.emit(0, 4);
        due.told("the first has failed alone", x, 0, "FAILED 6");
        due.told("the second has its own demand", x, 1, "ACTIVE 0:4 +0/2");
        due.told("the third has its own demand", x, 2, "ACTIVE 0:4 +0/4");
    }

    private static void roomOfEach() {
        due.sentence("SUBSCRIPTIONS 0..2.");
        TimedStreams x = Made.stages();
        for (int id = 0; id <= 2; id++) {
            x.subscribe(id, 0);
        }
        Made.emitUpTo(x, 0, 8);
        for (int id = 0; id <= 2; id++) {
            due.told("eight wait for each", x, id, "ACTIVE +8/0");
        }
        for (int id = 0; id <= 2; id++) {
            x.request(id, 16);
        }
        Made.emitUpTo(x, 0, 8);
        for (int id = 0; id <= 2; id++) {
            due.told("sixteen are told of each", x, id,
                    "ACTIVE 0:1 0:2 0:3 0:4 0:5 0:6 0:7 0:8 0:1 0:2 0:3 0:4 0:5 0:6 0:7 0:8 +0/0");
        }
    }

    /** Stages 3 to 2 + n are ADD 0 in a chain over SOURCE 0. */
    private static TimedStreams chain(int n) {
        TimedStreams x = Made.stages();
        for (int stage = 3; stage < 3 + n; stage++) {
            x.stage(3, stage == 3 ? 0 : stage - 1, 0);
        }
        return x;
    }

    private static void lastPart() {
        due.sentence("THE PARTS of a stage are those of its stages a and b, as far as they are stages (those of a first),"
                + " and it itself");
        TimedStreams x = chain(7);
        x.stage(11, 9, 3);
        TimedStreams y = chain(6);
        y.stage(17, 8, 1);
        for (int id = 0; id <= 2; id++) {
            due.same("DELAY is the ninth part", x.subscribe(id, 10), 9);
            due.same("ZIP is the ninth part", y.subscribe(id, 9), 9);
            x.request(id, 8);
            y.request(id, 8);
        }
        Made.emitUpTo(x, 0, 8);
        x.advance(3);
        Made.emitUpTo(y, 0, 8);
        Made.emit(y, 1, 0, 0, 0, 0, 0, 0, 0, 0);
        for (int id = 0; id <= 2; id++) {
            due.told("eight waited in DELAY", x, id, "ACTIVE 3:1 3:2 3:3 3:4 3:5 3:6 3:7 3:8 +0/0");
            due.told("eight waited in ZIP", y, id, "ACTIVE 0:31 0:62 0:93 0:124 0:155 0:186 0:217 0:248 +0/0");
        }
        Made.emitUpTo(x, 0, 9);
        Made.emitUpTo(y, 0, 9);
        for (int id = 0; id <= 2; id++) {
            due.same("a ninth in DELAY", x.code(id), 8);
            due.same("a ninth in ZIP", y.code(id), 8);
        }
    }

    private static void beginning() {
        due.sentence("with the moment of the call as the beginning (of this call, before all its parts)");
        TimedStreams x = Made.stages();
        x.advance(3);
        x.emit(0, 1);
        x.subscribe(0, 0);
        x.subscribe(1, 2);
        x.request(0, 9);
        x.request(1, 9);
        x.emit(0, 2);
        x.advance(5);
        due.told("a call before it at the same time", x, 0, "ACTIVE 3:2 +0/8");
        due.told("an INTERVAL from its time on", x, 1, "ACTIVE 8:0 +0/8");
    }

    private static void demand() {
        due.sentence("Its DEMAND is 0 at first.");
        TimedStreams x = Made.stages();
        x.subscribe(0, 0);
        due.told("at first", x, 0, "ACTIVE +0/0");
        x.emit(0, 1);
        due.told("an item waits", x, 0, "ACTIVE +1/0");
        due.sentence("An item that comes, if the demand is above 0, is DELIVERED: the demand goes down by 1");
        x = Made.stages();
        x.subscribe(0, 0);
        x.request(0, 2);
        x.emit(0, 1);
        due.told("a demand of 2", x, 0, "ACTIVE 0:1 +0/1");
        x.emit(0, 2);
        due.told("a demand of 1", x, 0, "ACTIVE 0:1 0:2 +0/0");
        x.emit(0, 3);
        due.told("a demand of 0", x, 0, "ACTIVE 0:1 0:2 +1/0");
    }

    private static void endlessDemand() {
        due.sentence("(if it is 9223372036854775807: not)");
        TimedStreams x = Made.stages();
        x.subscribe(0, 0);
        x.request(0, ENDLESS);
        Made.emitUpTo(x, 0, 32);
        due.same("all are delivered", x.delivered(0), 32);
        due.same("the demand stays", x.pending(0), 15);
        due.same("and takes more", x.request(0, ENDLESS), true);
        due.same("and stays", x.pending(0), 15);
    }

    private static void eightWait() {
        due.sentence("if 8 wait already, the subscription is FAILED with code 7 instead, and the item is lost");
        TimedStreams x = Made.stages();
        x.subscribe(0, 0);
        Made.emitUpTo(x, 0, 8);
        due.told("eight wait", x, 0, "ACTIVE +8/0");
        x.emit(0, 9);
        due.told("a ninth", x, 0, "FAILED 7");
        x = Made.stages();
        x.subscribe(0, 0);
        Made.emitUpTo(x, 0, 8);
        x.request(0, 1);
        x.emit(0, 9);
        due.told("one of the eight was delivered", x, 0, "ACTIVE 0:1 +8/0");
        x.emit(0, 10);
        due.told("eight wait again, and a ninth", x, 0, "FAILED 7 0:1");
        x = Made.stages();
        x.subscribe(0, 2);
        x.advance(44);
        due.told("eight by timers", x, 0, "ACTIVE +8/0");
        x.advance(1);
        due.told("a ninth by a timer", x, 0, "FAILED 7");
    }

    private static void ninthLost() {
        due.sentence("and the item is lost");
        TimedStreams x = Made.stages(11, 0, 3, 6, 3, 2, 16, 0, 4);
        x.subscribe(0, 5);
        Made.emitUpTo(x, 0, 7);
        due.told("seven wait", x, 0, "ACTIVE +7/0");
        x.advance(3);
        due.told("the eighth and the ninth at one moment", x, 0, "FAILED 7");
        due.same("no demand brings it", x.request(0, 9), false);
        due.same("none was delivered", x.delivered(0), 0);
        x = Made.stages(2, 5, 0, 19, 0, 3);
        x.subscribe(0, 4);
        Made.emitUpTo(x, 0, 8);
        x.complete(0);
        due.told("COMPLETE right behind the ninth", x, 0, "FAILED 7");
    }

    private static void endBehindItems() {
        due.sentence("An end that comes ends the subscription, DONE or FAILED with the code, as soon as no item waits.");
        TimedStreams x = Made.stages();
        for (int id = 0; id < 2; id++) {
            x.subscribe(id, id);
            x.emit(id, 1);
            x.emit(id, 2);
        }
        x.complete(0);
        x.fail(1, 4);
        for (int id = 0; id < 2; id++) {
            due.told("two wait", x, id, "ACTIVE +2/0");
            due.same("no code yet", x.code(id), 0);
            x.request(id, 1);
            due.told("one waits", x, id, "ACTIVE 0:1 +1/0");
            x.request(id, 1);
        }
        due.told("none waits behind COMPLETE", x, 0, "DONE 0:1 0:2");
        due.told("none waits behind an ERROR", x, 1, "FAILED 4 0:1 0:2");
        x = Made.stages();
        x.subscribe(0, 0);
        x.subscribe(1, 1);
        x.complete(0);
        x.fail(1, 4);
        due.told("at once with COMPLETE", x, 0, "DONE");
        due.told("at once with an ERROR", x, 1, "FAILED 4");
        x = Made.stages();
        x.subscribe(0, 0);
        Made.emitUpTo(x, 0, 8);
        x.complete(0);
        due.told("an end is no ninth item", x, 0, "ACTIVE +8/0");
        x.request(0, 8);
        due.told("eight at once", x, 0, "DONE 0:1 0:2 0:3 0:4 0:5 0:6 0:7 0:8");
    }

    private static void oldestFirst() {
        due.sentence("What waits is delivered, the oldest first, when demand comes.");
        TimedStreams x = Made.stages();
        x.subscribe(0, 0);
        Made.emitUpTo(x, 0, 8);
        x.advance(1);
        x.request(0, 1);
        due.told("one", x, 0, "ACTIVE 1:1 +7/0");
        x.advance(1);
        x.request(0, 6);
        due.told("all but one", x, 0, "ACTIVE 1:1 2:2 2:3 2:4 2:5 2:6 2:7 +1/0");
        x.emit(0, 9);
        x.request(0, 3);
        due.told("more than wait", x, 0, "ACTIVE 1:1 2:2 2:3 2:4 2:5 2:6 2:7 2:8 2:9 +0/1");
    }

    private static void nothingChangesAnyMore() {
        due.sentence("After DONE, FAILED or CANCELLED nothing comes and nothing changes any more.");
        for (int how = 0; how < 4; how++) {
            TimedStreams x = Made.stages(6, 0, 2, 16, 0, 2);
            x.subscribe(0, how == 0 ? 3 : 4);
            x.request(0, 2);
            Made.emit(x, 0, 1, 2);
            if (how == 1) {
                x.fail(0, 3);
            } else if (how == 2) {
                x.cancel(0);
            } else if (how == 3) {
                x.request(0, 0);
            }
            String want = new String[] {"DONE", "FAILED 3", "CANCELLED", "FAILED 6"}[how] + " 0:1 0:2";
            due.told("ended", x, 0, want);
            x.emit(0, 3);
            due.told("emit", x, 0, want);
            x.advance(60);
            due.told("advance", x, 0, want);
            due.same("request", x.request(0, 1), false);
            due.same("request below 1", x.request(0, 0), false);
            due.same("cancel", x.cancel(0), false);
            x.complete(0);
            due.told("complete, request, cancel", x, 0, want);
            due.same("pending", x.pending(0), 0);
        }
    }

    private static void openBegunAndNotEnded() {
        due.sentence("A part is OPEN if its stream has begun and not ended");
        TimedStreams x = Made.with(19, 0, 1);
        due.same("X has begun", x.open(0), 1);
        due.same("Y has not begun", x.open(1), 0);
        x.complete(0);
        due.same("X has ended", x.open(0), 0);
        due.same("Y has begun", x.open(1), 1);
        x = Made.with(20, 0, 1);
        x.fail(0, 1);
        due.same("X has failed", x.open(0), 0);
        due.same("Y has begun with the ERROR", x.open(1), 1);
        x = Made.with(11, 0, 3);
        x.complete(0);
        due.same("its COMPLETE is still on the way in a DELAY", x.open(0), 0);
        x = Made.stages();
        x.complete(0);
        x.subscribe(0, 0);
        due.same("begun after its source ended, it hears no end", x.open(0), 1);
    }

    private static void openActive() {
        due.sentence("its subscription is active");
        TimedStreams x = Made.with(0, 0, 0);
        due.same("ACTIVE", x.open(0), 1);
        x.cancel(0);
        due.same("CANCELLED", x.open(0), 0);
        x = Made.with(0, 0, 0);
        x.request(0, 0);
        due.same("FAILED by request", x.open(0), 0);
        x = Made.stages();
        x.subscribe(0, 0);
        Made.emitUpTo(x, 0, 8);
        due.same("eight wait", x.open(0), 1);
        x.emit(0, 9);
        due.same("FAILED by a ninth", x.open(0), 0);
    }

    private static void openUsers() {
        due.sentence("the streams of all parts that it is used by (directly or not) have not ended");
        TimedStreams x = Made.stages(6, 0, 1);
        x.subscribe(0, 3);
        due.same("TAKE has not ended", x.open(0), 1);
        x.emit(0, 1);
        due.same("directly: TAKE has ended, its item waits", x.open(0), 0);
        due.same("still ACTIVE", x.status(0), TimedStreams.ACTIVE);
        x = Made.stages(3, 0, 1, 3, 3, 1, 6, 4, 1, 19, 5, 1);
        x.subscribe(0, 6);
        x.emit(0, 1);
        due.same("not directly: TAKE over ADD over ADD", x.open(0), 0);
        due.same("what TAKE is used by has not ended", x.open(1), 1);
        for (int kind = 16; kind <= 18; kind++) {
            x = Made.with(kind, 0, 1, 20, 3, 0);
            x.fail(1, 1);
            due.same("an ERROR of the other side, kind " + kind, x.open(0), 1);
            x = Made.with(kind, 0, 1);
            x.emit(0, 1);
            x.emit(1, 1);
            due.same("both sides, kind " + kind, x.open(0) + x.open(1), 2);
            x.complete(1);
            due.same("the other side is complete, kind " + kind, x.open(0), kind == 17 ? 0 : 1);
        }
    }
}
