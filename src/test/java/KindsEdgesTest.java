/** The boundary cases that the document names with the kinds of stages: each sentence with just its own cases. */
public final class KindsEdgesTest {
    private static final Due due = new Due();
    private static final int MOST = Integer.MAX_VALUE, LEAST = Integer.MIN_VALUE;
    private static final int BAD = TimedStreams.BAD;

    public static void main(String[] args) {
        source();
        sourceOfLaterCalls();
        interval();
        just();
        add();
        above();
        scan();
        take();
        skip();
        changed();
        buffer();
        bufferLeft();
        count();
        delay();
        delayError();
        delayNinth();
        quiet();
        quietEnds();
        first();
        sample();
        sampleEnds();
        limit();
        limitAtTheSameTime();
        stagesAsOperands();
        equalMoments();
        merge();
        zip();
        zipComplete();
        zipNinth();
        latest();
        latestComplete();
        concat();
        resume();
        neverBegins();
        passedOn();
        behindTheEnd();
        due.end();
    }

    /** The last operands on both sides that are right make stage 3, the first ones that are not are BAD. */
    private static void operand(int kind, boolean isA, int least, int most) {
        for (int n : new int[] {least, most}) {
            due.same("operand " + n, Made.stages().stage(kind, isA ? n : 0, isA ? LEAST : n), 3);
        }
        for (int n : new int[] {least - 1, most + 1, LEAST, MOST}) {
            due.same("operand " + n, Made.stages().stage(kind, isA ? n : 0, isA ? LEAST : n), BAD);
        }
    }

    private static void source() {
        due.sentence("SOURCE a (0..2)");
        operand(0, true, 0, 2);
        for (int s = 0; s < 3; s++) {
            TimedStreams x = Made.with(0, s, 0);
            Made.emit(x, 0, 10);
            Made.emit(x, 1, 11);
            Made.emit(x, 2, 12);
            due.items("only source " + s, x, "ACTIVE 0:1" + s);
        }
        due.sentence("emit() an item, complete() and fail() its end");
        TimedStreams x = Made.with(0, 2, 0);
        Made.emit(x, 2, LEAST, MOST);
        due.items("items", x, "ACTIVE 0:-2147483648 0:2147483647");
        x.complete(2);
        due.items("COMPLETE", x, "DONE 0:-2147483648 0:2147483647");
        x = Made.with(0, 2, 0);
        x.fail(2, 5);
        due.items("ERROR", x, "FAILED 5");
    }

    private static void sourceOfLaterCalls() {
        due.sentence("what is sent to source a by later calls than that in which its beginning lies");
        TimedStreams x = Made.stages();
        x.emit(0, 1);
        x.subscribe(0, 0);
        x.request(0, 9);
        due.items("the call before", x, "ACTIVE");
        x.emit(0, 2);
        due.items("the next call", x, "ACTIVE 0:2");
        x = Made.with(6, 0, 1, 19, 3, 0);
        x.emit(0, 1);
        due.items("an emit in which it begins", x, "ACTIVE 0:1");
        x.emit(0, 2);
        due.items("the next emit", x, "ACTIVE 0:1 0:2");
        x = Made.with(19, 0, 0);
        x.complete(0);
        due.items("a complete in which it begins", x, "ACTIVE");
        x = Made.with(20, 0, 0);
        x.fail(0, 1);
        due.items("a fail in which it begins", x, "ACTIVE");
        x = Made.with(6, 2, 1, 19, 3, 0);
        x.emit(0, 1);
        x.advance(5);
        x.emit(0, 2);
        due.items("begun by a timer", x, "ACTIVE 5:0 5:2");
    }

    private static void interval() {
        due.sentence("INTERVAL a (5..50)");
        operand(1, true, 5, 50);
        due.sentence("the items 0, 1, 2, .. at the times a, 2 a, 3 a, .. after the beginning's");
        for (int a : new int[] {5, 50}) {
            TimedStreams x = Made.stages(1, a, 0);
            x.advance(50);
            x.subscribe(0, 3);
            x.request(0, 9);
            due.items("not at the beginning", x, "ACTIVE");
            x.advance(a - 1);
            due.items("not before a", x, "ACTIVE");
            x.advance(1);
            due.items("at a", x, "ACTIVE " + (50 + a) + ":0");
            x.advance(a - 1);
            due.items("not before 2 a", x, "ACTIVE " + (50 + a) + ":0");
            x.advance(1);
            due.items("at 2 a", x, "ACTIVE " + (50 + a) + ":0 " + (50 + 2 * a) + ":1");
        }
        TimedStreams x = Made.with(1, 50, 0);
        x.advance(200);
        due.items("at the last time", x, "ACTIVE 50:0 100:1 150:2 200:3");
    }

    private static void just() {
        due.sentence("JUST a: the item a, then COMPLETE, at the beginning");
        for (int a : new int[] {LEAST, -1, 0, MOST}) {
            TimedStreams x = Made.stages();
            due.same("any a", x.stage(2, a, LEAST), 3);
            x.advance(7);
            x.subscribe(0, 3);
            due.told("the item waits", x, 0, "ACTIVE +1/0");
            x.request(0, 1);
            due.told("then COMPLETE", x, 0, "DONE 7:" + a);
        }
    }

    private static void add() {
        due.sentence("ADD b    item + b (wrapping)");
        TimedStreams x = Made.with(3, 0, 1);
        Made.emit(x, 0, MOST - 1, MOST);
        due.items("above the greatest", x, "ACTIVE 0:2147483647 0:-2147483648");
        x = Made.with(3, 0, -1);
        Made.emit(x, 0, LEAST + 1, LEAST);
        due.items("below the least", x, "ACTIVE 0:-2147483648 0:2147483647");
        x = Made.with(3, 0, LEAST);
        Made.emit(x, 0, LEAST, MOST);
        due.items("the least b", x, "ACTIVE 0:0 0:-1");
        x = Made.with(3, 0, MOST);
        Made.emit(x, 0, MOST, LEAST);
        due.items("the greatest b", x, "ACTIVE 0:-2 0:-1");
    }

    private static void above() {
        due.sentence("ABOVE b   only items greater than b");
        TimedStreams x = Made.with(4, 0, 2);
        Made.emit(x, 0, 1, 2, 3);
        due.items("b and b + 1", x, "ACTIVE 0:3");
        x = Made.with(4, 0, MOST);
        Made.emit(x, 0, MOST, LEAST);
        due.items("none is above the greatest", x, "ACTIVE");
        x = Made.with(4, 0, LEAST);
        Made.emit(x, 0, LEAST, LEAST + 1, MOST);
        due.items("all but the least are above it", x, "ACTIVE 0:-2147483647 0:2147483647");
    }

    private static void scan() {
        due.sentence("SCAN b   each item becomes b + the sum of all items so far (wrapping)");
        TimedStreams x = Made.with(5, 0, MOST);
        Made.emit(x, 0, 0, 1, -1);
        due.items("from the greatest b", x, "ACTIVE 0:2147483647 0:-2147483648 0:2147483647");
        x = Made.with(5, 0, LEAST);
        Made.emit(x, 0, 0, -1);
        due.items("from the least b", x, "ACTIVE 0:-2147483648 0:2147483647");
        x = Made.with(5, 0, 0);
        Made.emit(x, 0, MOST, MOST, MOST);
        due.items("the sum wraps", x, "ACTIVE 0:2147483647 0:-2 0:2147483645");
    }

    private static void take() {
        due.sentence("TAKE b (1..8)");
        operand(6, false, 1, 8);
        due.sentence("COMPLETE, at its moment, behind the b-th item");
        TimedStreams x = Made.with(6, 0, 1);
        due.items("1: none", x, "ACTIVE");
        x.emit(0, 1);
        due.items("1: the first", x, "DONE 0:1");
        x = Made.with(6, 0, 8);
        Made.emitUpTo(x, 0, 7);
        due.items("8: the seventh", x, "ACTIVE 0:1 0:2 0:3 0:4 0:5 0:6 0:7");
        x.emit(0, 8);
        due.items("8: the eighth", x, "DONE 0:1 0:2 0:3 0:4 0:5 0:6 0:7 0:8");
        x = Made.with(6, 0, 1, 19, 3, 2);
        x.advance(3);
        x.emit(0, 9);
        x.advance(5);
        due.items("its moment begins what comes behind it", x, "ACTIVE 3:9 8:0");
        x = Made.with(6, 0, 2);
        x.emit(0, 1);
        x.complete(0);
        due.items("COMPLETE of X before", x, "DONE 0:1");
    }

    private static void skip() {
        due.sentence("SKIP b (0..8)");
        operand(7, false, 0, 8);
        due.sentence("without the first b items");
        TimedStreams x = Made.with(7, 0, 0);
        x.emit(0, 1);
        due.items("0: the first", x, "ACTIVE 0:1");
        x = Made.with(7, 0, 8);
        Made.emitUpTo(x, 0, 8);
        due.items("8: the eighth", x, "ACTIVE");
        Made.emit(x, 0, 9, 10);
        due.items("8: the ninth", x, "ACTIVE 0:9 0:10");
        x = Made.with(7, 0, 8);
        Made.emitUpTo(x, 0, 8);
        x.complete(0);
        due.items("8: no more than these", x, "DONE");
    }

    private static void changed() {
        due.sentence("CHANGED  without items that are the same as the one before (of X)");
        for (int v : new int[] {0, -1, LEAST, MOST}) {
            TimedStreams x = Made.with(8, 0, 0);
            x.emit(0, v);
            due.items("before the first is none", x, "ACTIVE 0:" + v);
            Made.emit(x, 0, v, v);
            due.items("the same", x, "ACTIVE 0:" + v);
            Made.emit(x, 0, 5, v);
            due.items("another one between", x, "ACTIVE 0:" + v + " 0:5 0:" + v);
        }
        due.same("b is not used", Made.stages().stage(8, 0, LEAST), 3);
    }

    private static void buffer() {
        due.sentence("BUFFER b (2..5)");
        operand(9, false, 2, 5);
        due.sentence("the sum (wrapping) of each b items, at the moment of the last of them");
        TimedStreams x = Made.with(9, 0, 2);
        x.emit(0, 1);
        due.items("2: the first", x, "ACTIVE");
        x.advance(3);
        x.emit(0, 2);
        due.items("2: the second", x, "ACTIVE 3:3");
        Made.emit(x, 0, 4, 8);
        due.items("2: the next two", x, "ACTIVE 3:3 3:12");
        x = Made.with(9, 0, 5);
        Made.emitUpTo(x, 0, 4);
        due.items("5: the fourth", x, "ACTIVE");
        x.emit(0, 5);
        due.items("5: the fifth", x, "ACTIVE 0:15");
        x = Made.with(9, 0, 2);
        Made.emit(x, 0, MOST, 0, MOST, 1, LEAST, -1);
        due.items("wrapping", x, "ACTIVE 0:2147483647 0:-2147483648 0:2147483647");
    }

    private static void bufferLeft() {
        due.sentence("of those that are left the sum right before COMPLETE; before an ERROR not");
        TimedStreams x = Made.with(9, 0, 5);
        Made.emitUpTo(x, 0, 4);
        x.advance(2);
        x.complete(0);
        due.items("one too few", x, "DONE 2:10");
        x = Made.with(9, 0, 5);
        Made.emitUpTo(x, 0, 5);
        x.complete(0);
        due.items("none is left", x, "DONE 0:15");
        x = Made.with(9, 0, 5);
        x.complete(0);
        due.items("none has come", x, "DONE");
        x = Made.with(9, 0, 2);
        Made.emit(x, 0, 1, 2, 4);
        x.complete(0);
        due.items("one is left", x, "DONE 0:3 0:4");
        x = Made.with(9, 0, 3);
        Made.emit(x, 0, 1, -1);
        x.complete(0);
        due.items("a sum of 0", x, "DONE 0:0");
        x = Made.with(9, 0, 3);
        Made.emit(x, 0, MOST, 1);
        x.complete(0);
        due.items("wrapping", x, "DONE 0:-2147483648");
        x = Made.with(9, 0, 2);
        Made.emit(x, 0, 1, 2, 4);
        x.fail(0, 1);
        due.items("before an ERROR", x, "FAILED 1 0:3");
    }

    private static void count() {
        due.sentence("COUNT  no items; before COMPLETE how many there were");
        TimedStreams x = Made.with(10, 0, 0);
        x.complete(0);
        due.items("of none", x, "DONE 0:0");
        x = Made.with(10, 0, 0);
        Made.emitUpTo(x, 0, 31);
        due.items("no items", x, "ACTIVE");
        x.advance(3);
        x.complete(0);
        due.items("of as many as a source can be sent", x, "DONE 3:31");
        x = Made.with(10, 0, 0);
        x.emit(0, 1);
        x.fail(0, 1);
        due.items("before an ERROR", x, "FAILED 1");
        due.same("b is not used", Made.stages().stage(10, 0, LEAST), 3);
    }

    private static void delay() {
        due.sentence("DELAY b (1..30)");
        operand(11, false, 1, 30);
        due.sentence("items and COMPLETE b later");
        for (int b : new int[] {1, 30}) {
            TimedStreams x = Made.with(11, 0, b);
            x.advance(4);
            x.emit(0, 1);
            x.advance(b - 1);
            due.items("not before", x, "ACTIVE");
            x.advance(1);
            due.items("b later", x, "ACTIVE " + (4 + b) + ":1");
            x.complete(0);
            x.advance(b - 1);
            due.items("COMPLETE not before", x, "ACTIVE " + (4 + b) + ":1");
            x.advance(1);
            due.items("COMPLETE b later", x, "DONE " + (4 + b) + ":1");
        }
        TimedStreams x = Made.with(11, 0, 30);
        x.advance(170);
        x.emit(0, 1);
        x.advance(30);
        due.items("at the last time", x, "ACTIVE 200:1");
        x = Made.with(11, 0, 3);
        x.emit(0, 1);
        x.complete(0);
        x.advance(3);
        due.items("COMPLETE behind an item of the same moment", x, "DONE 3:1");
        x = Made.with(11, 0, 3);
        for (int v = 1; v <= 3; v++) {
            x.emit(0, v);
            x.advance(1);
        }
        x.emit(0, 4);
        x.advance(9);
        due.items("each once, at its own time", x, "ACTIVE 3:1 4:2 5:3 6:4");
    }

    private static void delayError() {
        due.sentence("an ERROR at its moment, and what would be later than it is gone");
        TimedStreams x = Made.with(11, 0, 3);
        x.emit(0, 1);
        x.advance(1);
        x.emit(0, 2);
        x.advance(2);
        x.fail(0, 4);
        due.items("a timer of the same time is before a call", x, "FAILED 4 3:1");
        x.advance(9);
        due.items("what is later", x, "FAILED 4 3:1");
        x = Made.with(15, 0, 5, 11, 3, 5);
        x.emit(0, 1);
        x.advance(4);
        due.items("not yet", x, "ACTIVE");
        x.advance(1);
        due.items("a timer of a part before it is before its own", x, "FAILED 9");
    }

    private static void delayNinth() {
        due.sentence("A ninth item that waits at the same time: ERROR 8 at its moment.");
        TimedStreams x = Made.with(11, 0, 2);
        Made.emitUpTo(x, 0, 8);
        due.items("eight", x, "ACTIVE");
        x.emit(0, 9);
        due.items("nine", x, "FAILED 8");
        x.advance(9);
        due.items("the eight are gone", x, "FAILED 8");
        x = Made.with(11, 0, 2);
        Made.emitUpTo(x, 0, 8);
        x.complete(0);
        x.advance(2);
        due.items("COMPLETE is no item", x, "DONE 2:1 2:2 2:3 2:4 2:5 2:6 2:7 2:8");
        x = Made.with(11, 0, 2);
        x.emit(0, 1);
        x.advance(1);
        Made.emitUpTo(x, 0, 7);
        x.advance(1);
        x.emit(0, 8);
        due.items("one of the eight has come at this time", x, "ACTIVE 2:1");
        x.emit(0, 9);
        due.items("eight wait again, and a ninth", x, "FAILED 8 2:1");
        x = Made.with(11, 0, 5, 16, 3, 0, 11, 4, 5);
        Made.emitUpTo(x, 0, 4);
        x.advance(1);
        Made.emit(x, 0, 5, 6, 7, 8);
        x.advance(3);
        due.items("eight wait in the outer one, four of them until 5", x, "ACTIVE");
        x.advance(1);
        due.items("a timer of a part before it is before its own", x, "FAILED 8");
        x = Made.with(11, 0, 2, 11, 3, 2);
        Made.emitUpTo(x, 0, 8);
        x.advance(3);
        due.items("eight wait in a second DELAY", x, "ACTIVE");
        x.advance(1);
        due.items("eight waited in one after the other", x, "ACTIVE 4:1 4:2 4:3 4:4 4:5 4:6 4:7 4:8");
        x = Made.with(11, 0, 2, 20, 3, 2);
        x.advance(1);
        Made.emitUpTo(x, 0, 9);
        x.advance(5);
        due.items("at its moment", x, "ACTIVE 6:0");
    }

    private static void quiet() {
        due.sentence("QUIET b (1..30)");
        operand(12, false, 1, 30);
        due.sentence("an item b later if no other one comes before (at a moment that is less than that one)");
        for (int b : new int[] {1, 30}) {
            TimedStreams x = Made.with(12, 0, b);
            x.advance(4);
            x.emit(0, 1);
            x.advance(b - 1);
            due.items("not before", x, "ACTIVE");
            x.advance(1);
            due.items("b later", x, "ACTIVE " + (4 + b) + ":1");
            x.advance(b);
            due.items("only once", x, "ACTIVE " + (4 + b) + ":1");
        }
        TimedStreams x = Made.with(12, 0, 3);
        x.emit(0, 1);
        x.advance(2);
        x.emit(0, 2);
        x.advance(2);
        due.items("another at the last time before", x, "ACTIVE");
        x.advance(1);
        due.items("and this one b later", x, "ACTIVE 5:2");
        x = Made.with(12, 0, 3);
        x.emit(0, 1);
        x.advance(3);
        x.emit(0, 2);
        due.items("another by a call of the same time", x, "ACTIVE 3:1");
        x = Made.with(12, 2, 5);
        x.advance(10);
        due.items("another by a timer of a part before it at the same time", x, "ACTIVE");
        x = Made.with(12, 0, 3);
        Made.emit(x, 0, 1, 2);
        x.advance(3);
        due.items("another at the same time as it", x, "ACTIVE 3:2");
    }

    private static void quietEnds() {
        due.sentence("before COMPLETE the item that waits, at that moment; an ERROR: it is gone");
        TimedStreams x = Made.with(12, 0, 3);
        x.emit(0, 1);
        x.advance(2);
        x.complete(0);
        due.items("it waits", x, "DONE 2:1");
        x = Made.with(12, 0, 3);
        x.complete(0);
        due.items("none has come", x, "DONE");
        x = Made.with(12, 0, 3);
        x.emit(0, 1);
        x.advance(3);
        x.complete(0);
        due.items("it has gone on at this time", x, "DONE 3:1");
        x = Made.with(6, 2, 2, 12, 3, 5);
        x.advance(10);
        due.items("COMPLETE by a timer of a part before it at the same time", x, "DONE 10:1");
        x = Made.with(12, 0, 3);
        x.emit(0, 1);
        x.advance(2);
        x.fail(0, 2);
        due.items("an ERROR", x, "FAILED 2");
        x = Made.with(12, 0, 3);
        x.emit(0, 1);
        x.advance(3);
        x.fail(0, 2);
        due.items("an ERROR by a call of the same time", x, "FAILED 2 3:1");
        x = Made.with(15, 0, 4, 12, 3, 4);
        x.emit(0, 1);
        x.advance(4);
        due.items("an ERROR by a timer of a part before it at the same time", x, "FAILED 9");
    }

    private static void first() {
        due.sentence("FIRST b (1..30)");
        operand(13, false, 1, 30);
        due.sentence("an item only if the last one that was passed on is at least b old (or there was none)");
        for (int b : new int[] {1, 30}) {
            TimedStreams x = Made.with(13, 0, b);
            x.emit(0, 1);
            due.items("there was none", x, "ACTIVE 0:1");
            x.advance(b - 1);
            x.emit(0, 2);
            due.items("not yet b old", x, "ACTIVE 0:1");
            x.advance(1);
            x.emit(0, 3);
            due.items("b old", x, "ACTIVE 0:1 " + b + ":3");
            x.advance(b - 1);
            x.emit(0, 4);
            due.items("not yet b old again", x, "ACTIVE 0:1 " + b + ":3");
            x.advance(2);
            x.emit(0, 5);
            due.items("older", x, "ACTIVE 0:1 " + b + ":3 " + (2 * b + 1) + ":5");
        }
        TimedStreams x = Made.with(13, 0, 3);
        x.emit(0, 1);
        x.advance(2);
        x.emit(0, 2);
        x.advance(1);
        x.emit(0, 3);
        due.items("one that was not passed on does not count", x, "ACTIVE 0:1 3:3");
    }

    private static void sample() {
        due.sentence("SAMPLE b (1..30)");
        operand(14, false, 1, 30);
        due.sentence("at the times b, 2 b, .. after the beginning's, the latest one");
        for (int b : new int[] {1, 30}) {
            TimedStreams x = Made.stages(14, 0, b);
            x.advance(4);
            x.subscribe(0, 3);
            x.request(0, 9);
            Made.emit(x, 0, 1, 2);
            x.advance(b - 1);
            due.items("not before b", x, "ACTIVE");
            x.advance(1);
            due.items("at b", x, "ACTIVE " + (4 + b) + ":2");
            x.emit(0, 3);
            x.advance(b - 1);
            due.items("not before 2 b", x, "ACTIVE " + (4 + b) + ":2");
            x.advance(1);
            due.items("at 2 b", x, "ACTIVE " + (4 + b) + ":2 " + (4 + 2 * b) + ":3");
        }
        due.sentence("if one has come since the time before (or the beginning)");
        TimedStreams x = Made.with(14, 0, 4);
        x.advance(4);
        due.items("none has come since the beginning", x, "ACTIVE");
        x.emit(0, 1);
        x.advance(4);
        due.items("by a call of the time before", x, "ACTIVE 8:1");
        x.advance(4);
        due.items("none has come since", x, "ACTIVE 8:1");
        x.advance(3);
        x.emit(0, 1);
        x.advance(1);
        due.items("the same item again", x, "ACTIVE 8:1 16:1");
        x = Made.with(14, 2, 5);
        x.advance(11);
        due.items("by a timer of a part before it at the same time", x, "ACTIVE 5:0 10:1");
        x = Made.with(2, 9, 0, 19, 3, 0, 14, 4, 4);
        x.advance(8);
        due.items("at the beginning", x, "ACTIVE 4:9");
    }

    private static void sampleEnds() {
        due.sentence("no items but, at the times b, 2 b, .. after the beginning's");
        TimedStreams x = Made.with(14, 0, 4);
        x.emit(0, 1);
        x.advance(3);
        x.complete(0);
        due.items("COMPLETE before the time", x, "DONE");
        x = Made.with(14, 0, 4);
        x.emit(0, 1);
        x.advance(4);
        x.complete(0);
        due.items("COMPLETE by a call of the same time", x, "DONE 4:1");
        x = Made.with(6, 2, 1, 14, 3, 5);
        x.advance(5);
        due.items("COMPLETE by a timer of a part before it at the same time", x, "DONE");
    }

    private static void limit() {
        due.sentence("LIMIT b (1..30)");
        operand(15, false, 1, 30);
        due.sentence("ERROR 9, b after the beginning's time or the last item's");
        for (int b : new int[] {1, 30}) {
            TimedStreams x = Made.stages(15, 0, b);
            x.advance(4);
            x.subscribe(0, 3);
            x.request(0, 9);
            x.advance(b - 1);
            due.items("not before", x, "ACTIVE");
            x.advance(1);
            due.items("b after the beginning's", x, "FAILED 9");
        }
        TimedStreams x = Made.with(15, 0, 30);
        x.advance(29);
        x.emit(0, 1);
        x.advance(29);
        due.items("not before", x, "ACTIVE 29:1");
        x.advance(1);
        due.items("b after the last item's", x, "FAILED 9 29:1");
        x = Made.with(15, 0, 1);
        x.emit(0, 1);
        due.items("not at the item's own time", x, "ACTIVE 0:1");
        x.advance(1);
        due.items("1 after the last item's", x, "FAILED 9 0:1");
    }

    private static void limitAtTheSameTime() {
        due.sentence("if before this moment neither a further item nor an end comes");
        TimedStreams x = Made.with(15, 0, 4);
        x.advance(3);
        x.complete(0);
        x.advance(9);
        due.items("COMPLETE at the last time before", x, "DONE");
        x = Made.with(15, 0, 4);
        x.advance(3);
        x.fail(0, 2);
        x.advance(9);
        due.items("an ERROR at the last time before", x, "FAILED 2");
        x = Made.with(15, 0, 4);
        x.advance(4);
        x.emit(0, 1);
        due.items("an item by a call of the same time", x, "FAILED 9");
        x = Made.with(15, 2, 5);
        x.advance(14);
        due.items("an item by a timer of a part before it at the same time", x, "ACTIVE 5:0 10:1");
        x = Made.with(6, 2, 1, 15, 3, 5);
        x.advance(5);
        due.items("COMPLETE by a timer of a part before it at the same time", x, "DONE 5:0");
        x = Made.with(11, 0, 5, 16, 3, 0, 11, 4, 30, 15, 5, 5);
        Made.emitUpTo(x, 0, 5);
        x.advance(5);
        due.items("an ERROR by a timer of a part before it at the same time", x, "FAILED 8");
    }

    private static void stagesAsOperands() {
        due.sentence("operands that are stages are stages that were made before");
        for (int kind = 3; kind <= 20; kind++) {
            int b = kind == 9 ? 2 : 1;
            due.same("a is the first, kind " + kind, Made.stages().stage(kind, 0, b), 3);
            due.same("a is the last, kind " + kind, Made.stages().stage(kind, 2, b), 3);
            due.same("a is the stage itself, kind " + kind, Made.stages().stage(kind, 3, b), BAD);
            due.same("a is below, kind " + kind, Made.stages().stage(kind, -1, b), BAD);
            due.same("there are no stages, kind " + kind, new TimedStreams().stage(kind, 0, b), BAD);
        }
        for (int kind = 16; kind <= 20; kind++) {
            operand(kind, false, 0, 2);
            due.same("both are the same, kind " + kind, Made.stages().stage(kind, 2, 2), 3);
        }
    }

    private static void equalMoments() {
        due.sentence("Of equal moments those of X come before those of Y.");
        int[] joined = {2, 1, 0, 2, 2, 0, 16, 3, 4};
        TimedStreams x = Made.with(joined);
        due.items("MERGE of 1 and 2 at the beginning", x, "DONE 0:1 0:2");
        joined[7] = 4;
        joined[8] = 3;
        x = Made.with(joined);
        due.items("MERGE of 2 and 1 at the beginning", x, "DONE 0:2 0:1");
        x = Made.with(2, 1, 0, 2, 2, 0, 16, 3, 4, 6, 2, 1, 19, 6, 5);
        x.advance(5);
        due.items("MERGE at a beginning by a timer", x, "DONE 5:0 5:1 5:2");
        x = Made.with(2, 1, 0, 19, 3, 3, 2, 2, 0, 18, 4, 5);
        due.items("LATEST: all of X are there before the first of Y", x, "DONE 0:33");
        x = Made.with(2, 1, 0, 19, 3, 3, 2, 2, 0, 18, 5, 4);
        due.items("LATEST: each of Y behind the one of X", x, "DONE 0:63 0:63");
        x = Made.with(16, 0, 1, 2, 7, 0, 19, 0, 4, 16, 5, 0);
        x.complete(0);
        due.items("a beginning in a call is at the part by which it came in", x, "DONE 0:7");
    }

    private static void merge() {
        due.sentence("MERGE   the items of both; an ERROR of either; COMPLETE with the later of both.");
        for (int s = 0; s < 2; s++) {
            TimedStreams x = Made.with(16, 0, 1);
            x.complete(s);
            x.emit(1 - s, 4);
            due.items("one is complete", x, "ACTIVE 0:4");
            x.complete(1 - s);
            due.items("both are", x, "DONE 0:4");
            x = Made.with(16, 0, 1);
            x.complete(s);
            x.fail(1 - s, 5);
            due.items("an ERROR behind the other's COMPLETE", x, "FAILED 5");
            x = Made.with(16, 0, 1);
            x.emit(1 - s, 4);
            x.fail(s, 5);
            x.emit(1 - s, 5);
            due.items("an ERROR of one", x, "FAILED 5 0:4");
        }
        TimedStreams x = Made.with(16, 0, 0);
        x.complete(0);
        due.items("both in one call", x, "DONE");
    }

    private static void zip() {
        due.sentence("the n-th of X and the n-th of Y give 31 * x + y (wrapping), at the later moment");
        for (int s = 0; s < 2; s++) {
            TimedStreams x = Made.with(17, 0, 1);
            x.emit(s, 5);
            due.items("one alone", x, "ACTIVE");
            x.advance(3);
            x.emit(1 - s, 5);
            due.items("both", x, "ACTIVE 3:160");
        }
        TimedStreams x = Made.with(17, 0, 1);
        Made.emit(x, 0, 1, 2, 3);
        Made.emit(x, 1, 10, 20);
        due.items("the oldest with the oldest", x, "ACTIVE 0:41 0:82");
        Made.emit(x, 1, 30, 40);
        Made.emit(x, 0, 4);
        due.items("the other side waits then", x, "ACTIVE 0:41 0:82 0:123 0:164");
        x = Made.with(17, 0, 1);
        Made.emit(x, 0, MOST, LEAST, 69273666);
        Made.emit(x, 1, MOST, -1, 2);
        due.items("wrapping", x, "ACTIVE 0:-32 0:2147483647 0:-2147483648");
    }

    private static void zipComplete() {
        due.sentence("COMPLETE as soon as one of them is complete and all of its items are in pairs; an ERROR of either.");
        for (int s = 0; s < 2; s++) {
            TimedStreams x = Made.with(17, 0, 1);
            x.complete(s);
            due.items("none of either", x, "DONE");
            x = Made.with(17, 0, 1);
            x.emit(1 - s, 0);
            x.complete(s);
            due.items("none of its own, the other's wait", x, "DONE");
            x = Made.with(17, 0, 1);
            x.emit(s, 0);
            x.complete(s);
            due.items("one is in no pair", x, "ACTIVE");
            x.emit(1 - s, 0);
            due.items("the last is in a pair", x, "DONE 0:0");
            x = Made.with(17, 0, 1);
            Made.emit(x, s, 0, 0);
            x.complete(s);
            x.emit(1 - s, 0);
            due.items("the last but one is in a pair", x, "ACTIVE 0:0");
            x.complete(1 - s);
            due.items("all of the other's are in pairs", x, "DONE 0:0");
            x = Made.with(17, 0, 1);
            x.emit(s, 0);
            x.complete(s);
            x.fail(1 - s, 3);
            due.items("an ERROR behind the other's COMPLETE", x, "FAILED 3");
        }
        TimedStreams x = Made.with(17, 0, 1);
        x.emit(0, 0);
        x.emit(1, 0);
        x.complete(0);
        due.items("all are in pairs", x, "DONE 0:0");
    }

    private static void zipNinth() {
        due.sentence("A ninth item that waits for its partner: ERROR 8 at its moment.");
        for (int s = 0; s < 2; s++) {
            TimedStreams x = Made.with(17, 0, 1);
            Made.emitUpTo(x, s, 8);
            due.items("eight", x, "ACTIVE");
            x.emit(s, 9);
            due.items("nine", x, "FAILED 8");
            x = Made.with(17, 0, 1);
            Made.emitUpTo(x, s, 8);
            x.emit(1 - s, 0);
            x.emit(s, 9);
            due.same("one of eight is in a pair", x.status(0), TimedStreams.ACTIVE);
            x.emit(s, 10);
            due.same("eight wait again, and a ninth", x.code(0), 8);
            x = Made.with(17, 0, 1);
            Made.emit(x, s, 0, 0, 0, 0, 0, 0, 0, 0);
            x.complete(s);
            Made.emit(x, 1 - s, 0, 0, 0, 0, 0, 0, 0);
            due.items("COMPLETE is no item", x, "ACTIVE 0:0 0:0 0:0 0:0 0:0 0:0 0:0");
            x.emit(1 - s, 0);
            due.items("the eighth pair", x, "DONE 0:0 0:0 0:0 0:0 0:0 0:0 0:0 0:0");
            x = Made.with(17, 0, 1, 20, 3, 2);
            x.advance(1);
            Made.emitUpTo(x, s, 9);
            x.advance(5);
            due.items("at its moment", x, "ACTIVE 6:0");
        }
    }

    private static void latest() {
        due.sentence("each item of either, once both have had one, gives 31 * the latest x + the latest y (wrapping)");
        for (int s = 0; s < 2; s++) {
            TimedStreams x = Made.with(18, 0, 1);
            Made.emit(x, s, 1, 0);
            due.items("one has had none", x, "ACTIVE");
            x.emit(1 - s, 0);
            due.items("both have had one", x, "ACTIVE 0:0");
            x.emit(1 - s, 0);
            x.emit(s, 0);
            due.items("each of either", x, "ACTIVE 0:0 0:0 0:0");
        }
        TimedStreams x = Made.with(18, 0, 1);
        x.emit(0, MOST);
        x.emit(1, MOST);
        x.emit(0, LEAST);
        x.emit(1, -1);
        due.items("wrapping", x, "ACTIVE 0:-32 0:-1 0:2147483647");
    }

    private static void latestComplete() {
        due.sentence("an ERROR of either; COMPLETE if both are complete, or one is that had no item");
        for (int s = 0; s < 2; s++) {
            TimedStreams x = Made.with(18, 0, 1);
            x.complete(s);
            due.items("one that had no item, nor had the other", x, "DONE");
            x = Made.with(18, 0, 1);
            x.emit(1 - s, 4);
            x.complete(s);
            due.items("one that had no item", x, "DONE");
            x = Made.with(18, 0, 1);
            x.emit(s, 4);
            x.complete(s);
            due.items("one that had an item", x, "ACTIVE");
            x.complete(1 - s);
            due.items("both, and the other had no item", x, "DONE");
            x = Made.with(18, 0, 1);
            x.emit(s, 0);
            x.emit(1 - s, 0);
            x.complete(s);
            x.emit(1 - s, 0);
            due.items("the other goes on", x, "ACTIVE 0:0 0:0");
            x.complete(1 - s);
            due.items("both are", x, "DONE 0:0 0:0");
            x = Made.with(18, 0, 1);
            x.emit(s, 0);
            x.complete(s);
            x.fail(1 - s, 3);
            due.items("an ERROR behind the other's COMPLETE", x, "FAILED 3");
        }
    }

    private static void concat() {
        due.sentence("CONCAT  X; in place of COMPLETE Y, with the moment of this COMPLETE as its beginning.");
        TimedStreams x = Made.with(19, 0, 2);
        x.advance(4);
        x.complete(0);
        x.advance(4);
        due.items("counts from the COMPLETE", x, "ACTIVE");
        x.advance(1);
        due.items("an INTERVAL from the COMPLETE on", x, "ACTIVE 9:0");
        x = Made.with(2, 1, 0, 19, 3, 3, 19, 4, 4);
        due.items("all at one beginning", x, "DONE 0:1 0:1 0:1 0:1");
        x = Made.with(19, 0, 1);
        x.complete(0);
        x.complete(1);
        due.items("COMPLETE of Y", x, "DONE");
        x = Made.with(19, 0, 1);
        x.complete(0);
        x.fail(1, 2);
        due.items("an ERROR of Y", x, "FAILED 2");
    }

    private static void resume() {
        due.sentence("RESUME  X; in place of an ERROR Y, with the moment of this ERROR as its beginning.");
        TimedStreams x = Made.with(20, 0, 2);
        x.advance(4);
        x.fail(0, 1);
        x.advance(4);
        due.items("counts from the ERROR", x, "ACTIVE");
        x.advance(1);
        due.items("an INTERVAL from the ERROR on", x, "ACTIVE 9:0");
        x = Made.with(20, 0, 1);
        x.fail(0, 1);
        x.complete(1);
        due.items("COMPLETE of Y", x, "DONE");
        x = Made.with(20, 0, 1);
        x.fail(0, 1);
        x.fail(1, 2);
        due.items("an ERROR of Y", x, "FAILED 2");
        x = Made.with(15, 0, 3, 20, 3, 3);
        x.advance(5);
        due.items("ERROR 9 of X, Y is not yet there", x, "ACTIVE");
        x.advance(1);
        due.items("ERROR 9 of Y", x, "FAILED 9");
    }

    private static void neverBegins() {
        due.sentence("(Y of CONCAT and RESUME that never begins has nothing.)");
        TimedStreams x = Made.with(16, 1, 2, 19, 0, 3);
        x.emit(1, 1);
        x.advance(5);
        due.items("CONCAT before the COMPLETE", x, "ACTIVE");
        due.same("not open", x.open(1), 0);
        x.fail(0, 2);
        due.items("CONCAT with an ERROR of X", x, "FAILED 2");
        x = Made.with(16, 1, 2, 20, 0, 3);
        x.emit(1, 1);
        x.advance(5);
        due.items("RESUME before the ERROR", x, "ACTIVE");
        due.same("not open", x.open(1), 0);
        x.complete(0);
        due.items("RESUME with COMPLETE of X", x, "DONE");
    }

    private static void passedOn() {
        due.sentence("every item and end of X that is not said to do something else is passed on at its moment");
        int[] passing = {3, 0, 4, 0, 5, 0, 7, 1, 8, 0, 13, 1, 15, 9};
        for (int i = 0; i < passing.length; i += 2) {
            TimedStreams x = Made.with(passing[i], 0, passing[i + 1]);
            Made.emit(x, 0, 7, 7);
            x.advance(1);
            Made.emit(x, 0, 8);
            due.same("the last item, kind " + passing[i], x.item(0, 0) >> 32, 1);
        }
        for (int kind = 3; kind <= 15; kind++) {
            TimedStreams x = Made.stages(2, 7, 0, kind, 3, kind == 9 ? 2 : kind == 7 ? 0 : 1);
            x.subscribe(0, 2);
            x.request(0, 1);
            x.advance(4);
            x.subscribe(1, 4);
            x.request(1, 9);
            x.advance(1);
            due.told("an item and COMPLETE at the beginning, kind " + kind, x, 1, switch (kind) {
                case 3, 5 -> "DONE 4:8";
                case 10 -> "DONE 4:1";
                case 11 -> "DONE 5:7";
                case 14 -> "DONE";
                default -> "DONE 4:7";
            });
            due.told("another subscription goes on, kind " + kind, x, 0, "ACTIVE 5:0 +0/0");
        }
        for (int kind = 3; kind <= 20; kind++) {
            int b = kind == 9 ? 2 : 1;
            for (int code : new int[] {1, 5}) {
                TimedStreams x = Made.with(kind, 0, b);
                x.fail(0, code);
                due.items("an ERROR, kind " + kind, x, kind == 20 ? "ACTIVE" : "FAILED " + code);
            }
        }
        for (int kind : new int[] {3, 4, 5, 6, 7, 8, 9, 12, 13, 14, 15, 20}) {
            TimedStreams x = Made.with(kind, 0, kind == 9 ? 2 : 1);
            x.complete(0);
            due.items("COMPLETE, kind " + kind, x, "DONE");
        }
    }

    private static void behindTheEnd() {
        due.sentence("What X has behind the end that is said does not matter.");
        TimedStreams x = Made.with(6, 0, 1);
        x.emit(0, 1);
        x.emit(0, 2);
        x.fail(0, 1);
        due.items("TAKE", x, "DONE 0:1");
        x = Made.with(6, 0, 1);
        x.request(0, 1);
        x.emit(0, 1);
        due.same("TAKE: it is not open any more", x.open(0), 0);
        x = Made.with(11, 0, 3, 20, 3, 1);
        Made.emitUpTo(x, 0, 10);
        x.complete(0);
        x.advance(9);
        due.items("DELAY behind ERROR 8", x, "ACTIVE");
        x = Made.with(15, 0, 3, 20, 3, 1);
        x.advance(3);
        x.emit(0, 1);
        x.complete(0);
        due.items("LIMIT behind ERROR 9", x, "ACTIVE");
        x = Made.with(17, 0, 1, 20, 3, 2);
        Made.emitUpTo(x, 0, 9);
        x.emit(1, 1);
        x.complete(0);
        due.items("ZIP behind ERROR 8", x, "ACTIVE");
    }
}
