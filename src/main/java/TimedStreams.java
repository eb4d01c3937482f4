public final class TimedStreams {
    public static final int ACTIVE = 0, DONE = 1, FAILED = 2, CANCELLED = 3, NONE = -1, FULL = -2, BAD = -3;

    private static final int SOURCE = 0, INTERVAL = 1, JUST = 2, ADD = 3, ABOVE = 4, SCAN = 5, TAKE = 6, SKIP = 7,
            CHANGED = 8, BUFFER = 9, COUNT = 10, DELAY = 11, QUIET = 12, FIRST = 13, SAMPLE = 14, LIMIT = 15,
            MERGE = 16, ZIP = 17, LATEST = 18, CONCAT = 19, RESUME = 20;

    private static final int CODE_BAD_REQUEST = 6, CODE_NO_DEMAND = 7, CODE_TOO_MANY_WAIT = 8, CODE_LIMIT = 9;

    private static final int STAGES = 12, SOURCES = 3, SUBSCRIPTIONS = 3, PARTS = 9, ROOM = 8, HISTORY = 16;
    private static final int ALL_PARTS = 27, ALL_PART_ROOM = 216, ALL_WAIT_ROOM = 24, ALL_HISTORY = 48;
    private static final int LAST_TIME = 200, MOST_SENDS = 32, MOST_REQUESTS = 32;
    private static final long ENDLESS = 9223372036854775807L;

    private static final int NOT_BEGUN = 0, RUNNING = 1, ENDED = 2;
    private static final int NO_PART = -1, NO_TIME = -1;

    private static final int BEGIN = 0, ITEM = 1, COMPLETE = 2, ERROR = 3;
    private static final int NO_END = 0;
    private static final int TASKS = 128, MOST_STEPS = 1000000;

    private int time = 0;
    // Also tells calls apart: a part that began during a send must not hear that send.
    private int sent = 0;
    private final boolean[] sourceEnded = new boolean[SOURCES];

    private int stageCount = 0;
    private final int[] stageKind = new int[STAGES];
    private final int[] stageA = new int[STAGES];
    private final int[] stageB = new int[STAGES];
    private final int[] stageParts = new int[STAGES];

    // The parts of subscription id lie at id * PARTS and behind, in the order of their numbers.
    private final int[] partStage = new int[ALL_PARTS];
    private final int[] partUser = new int[ALL_PARTS];
    private final int[] partX = new int[ALL_PARTS];
    private final int[] partY = new int[ALL_PARTS];
    private final int[] phase = new int[ALL_PARTS];
    private final int[] beganAfter = new int[ALL_PARTS];
    private final int[] due = new int[ALL_PARTS];
    private final int[] count = new int[ALL_PARTS];
    private final int[] held = new int[ALL_PARTS];
    private final int[] heldY = new int[ALL_PARTS];
    private final boolean[] hasHeld = new boolean[ALL_PARTS];
    private final boolean[] hasHeldY = new boolean[ALL_PARTS];

    // Items that wait in a DELAY or in a ZIP; in a ZIP never both sides wait, so one queue is enough.
    private final int[] queueSize = new int[ALL_PARTS];
    private final boolean[] queueIsOfX = new boolean[ALL_PARTS];
    private final int[] queueValue = new int[ALL_PART_ROOM];
    private final int[] queueDue = new int[ALL_PART_ROOM];

    private final int[] subStatus = new int[SUBSCRIPTIONS];
    private final int[] subCode = new int[SUBSCRIPTIONS];
    private final int[] subEnd = new int[SUBSCRIPTIONS];
    private final long[] subDemand = new long[SUBSCRIPTIONS];
    private final int[] subRequests = new int[SUBSCRIPTIONS];
    private final int[] subDelivered = new int[SUBSCRIPTIONS];
    private final int[] subWaiting = new int[SUBSCRIPTIONS];
    private final int[] waitValue = new int[ALL_WAIT_ROOM];
    private final long[] history = new long[ALL_HISTORY];

    // A stack in place of recursion: what a part says is heard to the very end before what it says next.
    private int tasks = 0;
    private final int[] taskWhat = new int[TASKS];
    private final int[] taskPart = new int[TASKS];
    private final int[] taskValue = new int[TASKS];

    public TimedStreams() {
        forgetRuns();
    }

    public int stage(int kind, int a, int b) {
        if (!operandsFit(kind, a, b)) {
            return BAD;
        }
        if (stageCount >= STAGES) {
            return FULL;
        }
        int made = stageCount;
        stageKind[made] = kind;
        stageA[made] = a;
        stageB[made] = b;
        stageParts[made] = 1;
        if (kind > JUST) {
            stageParts[made] += stageParts[a];
        }
        if (kind >= MERGE) {
            stageParts[made] += stageParts[b];
        }
        stageCount++;
        return made;
    }

    public int subscribe(int id, int stage) {
        if (!isId(id) || !isStage(stage)) {
            return BAD;
        }
        int parts = stageParts[stage];
        if (parts > PARTS) {
            return FULL;
        }
        int first = id * PARTS;
        int root = first + parts - 1;
        clearSubscription(id, ACTIVE);
        clearParts(first);
        layOutParts(first, root, stage);
        push(BEGIN, root, 0);
        runTasks(id);
        return parts;
    }

    public boolean request(int id, long n) {
        if (!isActive(id) || subRequests[id] >= MOST_REQUESTS) {
            return false;
        }
        subRequests[id]++;
        if (n < 1L) {
            endSubscription(id, FAILED, CODE_BAD_REQUEST);
            return true;
        }
        subDemand[id] = n > ENDLESS - subDemand[id] ? ENDLESS : subDemand[id] + n;
        deliverWaiting(id);
        endIfNothingWaits(id);
        return true;
    }

    public boolean cancel(int id) {
        if (!isActive(id)) {
            return false;
        }
        endSubscription(id, CANCELLED, 0);
        return true;
    }

    public boolean emit(int s, int v) {
        return send(ITEM, s, v);
    }

    public boolean complete(int s) {
        return send(COMPLETE, s, 0);
    }

    public boolean fail(int s, int code) {
        return code >= 1 && code <= 5 && send(ERROR, s, code);
    }

    public int advance(int d) {
        if (d < 0 || d > LAST_TIME - time) {
            return BAD;
        }
        for (int step = 0; step < d; step++) {
            time++;
            runTimers();
        }
        return time;
    }

    public int status(int id) {
        return isId(id) ? subStatus[id] : NONE;
    }

    public int code(int id) {
        return isId(id) && subStatus[id] == FAILED ? subCode[id] : 0;
    }

    public int delivered(int id) {
        return isId(id) ? subDelivered[id] : 0;
    }

    public long item(int id, int k) {
        if (!isId(id) || k < 0 || k >= HISTORY || k >= subDelivered[id]) {
            return -1L;
        }
        return history[id * HISTORY + ((subDelivered[id] - 1 - k) & (HISTORY - 1))];
    }

    public int pending(int id) {
        if (!isActive(id)) {
            return 0;
        }
        int demand = subDemand[id] > 15L ? 15 : (int) subDemand[id];
        return 16 * subWaiting[id] + demand;
    }

    public int open(int s) {
        int found = 0;
        for (int id = 0; id < SUBSCRIPTIONS; id++) {
            for (int k = 0; k < PARTS; k++) {
                int p = id * PARTS + k;
                if (isRunningSource(id, p, s) && isStillUsed(p)) {
                    found++;
                }
            }
        }
        return found;
    }

    public void restart() {
        forgetRuns();
    }

    private void forgetRuns() {
        time = 0;
        sent = 0;
        for (int s = 0; s < SOURCES; s++) {
            sourceEnded[s] = false;
        }
        for (int id = 0; id < SUBSCRIPTIONS; id++) {
            clearSubscription(id, NONE);
        }
    }

    private static boolean isId(int id) {
        return id >= 0 && id < SUBSCRIPTIONS;
    }

    private boolean isActive(int id) {
        return isId(id) && subStatus[id] == ACTIVE;
    }

    private boolean isStage(int stage) {
        return stage >= 0 && stage < stageCount;
    }

    private boolean operandsFit(int kind, int a, int b) {
        if (kind < SOURCE || kind > RESUME) {
            return false;
        }
        if (kind == SOURCE) {
            return a >= 0 && a < SOURCES;
        }
        if (kind == INTERVAL) {
            return a >= 5 && a <= 50;
        }
        if (kind == JUST) {
            return true;
        }
        if (!isStage(a)) {
            return false;
        }
        return kind >= MERGE ? isStage(b) : numberFits(kind, b);
    }

    private static boolean numberFits(int kind, int b) {
        switch (kind) {
            case TAKE:
                return b >= 1 && b <= 8;
            case SKIP:
                return b >= 0 && b <= 8;
            case BUFFER:
                return b >= 2 && b <= 5;
            case DELAY:
            case QUIET:
            case FIRST:
            case SAMPLE:
            case LIMIT:
                return b >= 1 && b <= 30;
            default:
                return true;
        }
    }

    private void clearSubscription(int id, int status) {
        subStatus[id] = status;
        subCode[id] = 0;
        subEnd[id] = NO_END;
        subDemand[id] = 0L;
        subRequests[id] = 0;
        subDelivered[id] = 0;
        subWaiting[id] = 0;
    }

    private void clearParts(int first) {
        for (int k = 0; k < PARTS; k++) {
            int p = first + k;
            phase[p] = NOT_BEGUN;
            partUser[p] = NO_PART;
            due[p] = NO_TIME;
            count[p] = 0;
            held[p] = 0;
            heldY[p] = 0;
            hasHeld[p] = false;
            hasHeldY[p] = false;
            queueSize[p] = 0;
        }
    }

    // A part stands behind all parts that it uses, so going down every part is told its stage before it is reached.
    private void layOutParts(int first, int root, int stage) {
        partStage[root] = stage;
        for (int p = root; p >= first; p--) {
            int s = partStage[p];
            int x = p - 1;
            if (stageKind[s] >= MERGE) {
                int y = p - 1;
                partStage[y] = stageB[s];
                partUser[y] = p;
                partY[p] = y;
                x = y - stageParts[stageB[s]];
            }
            if (stageKind[s] > JUST) {
                partStage[x] = stageA[s];
                partUser[x] = p;
                partX[p] = x;
            }
        }
    }

    private boolean isRunningSource(int id, int p, int s) {
        if (subStatus[id] != ACTIVE || phase[p] != RUNNING) {
            return false;
        }
        int stage = partStage[p];
        return stageKind[stage] == SOURCE && stageA[stage] == s;
    }

    private boolean isStillUsed(int p) {
        int user = partUser[p];
        for (int step = 0; step < PARTS && user != NO_PART; step++) {
            if (phase[user] == ENDED) {
                return false;
            }
            user = partUser[user];
        }
        return true;
    }

    private boolean send(int what, int s, int value) {
        if (s < 0 || s >= SOURCES || sourceEnded[s] || sent >= MOST_SENDS) {
            return false;
        }
        sent++;
        sourceEnded[s] = what != ITEM;
        for (int id = 0; id < SUBSCRIPTIONS; id++) {
            for (int k = 0; k < PARTS; k++) {
                int p = id * PARTS + k;
                if (isRunningSource(id, p, s) && beganAfter[p] < sent) {
                    push(what, p, value);
                    runTasks(id);
                }
            }
        }
        return true;
    }

    private void runTimers() {
        for (int id = 0; id < SUBSCRIPTIONS; id++) {
            for (int k = 0; k < PARTS; k++) {
                int p = id * PARTS + k;
                if (subStatus[id] == ACTIVE && phase[p] == RUNNING) {
                    fireTimer(p);
                    runTasks(id);
                }
            }
        }
    }

    private void fireTimer(int p) {
        int s = partStage[p];
        if (stageKind[s] == DELAY) {
            releaseDelayed(p);
            return;
        }
        if (due[p] != time) {
            return;
        }
        due[p] = NO_TIME;
        switch (stageKind[s]) {
            case INTERVAL:
                due[p] = time + stageA[s];
                push(ITEM, p, count[p]);
                count[p]++;
                break;
            case QUIET:
                push(ITEM, p, held[p]);
                break;
            case SAMPLE:
                due[p] = time + stageB[s];
                if (hasHeld[p]) {
                    push(ITEM, p, held[p]);
                }
                hasHeld[p] = false;
                break;
            case LIMIT:
                push(ERROR, p, CODE_LIMIT);
                break;
            default:
                break;
        }
    }

    private void releaseDelayed(int p) {
        int first = p * ROOM;
        int ready = 0;
        for (int i = 0; i < queueSize[p]; i++) {
            if (queueDue[first + i] == time) {
                ready++;
            }
        }
        if (due[p] == time) {
            push(COMPLETE, p, 0);
        }
        for (int i = ready - 1; i >= 0; i--) {
            push(ITEM, p, queueValue[first + i]);
        }
        dropFromQueue(p, ready);
    }

    private void dropFromQueue(int p, int gone) {
        int first = p * ROOM;
        for (int i = gone; i < queueSize[p]; i++) {
            queueValue[first + i - gone] = queueValue[first + i];
            queueDue[first + i - gone] = queueDue[first + i];
        }
        queueSize[p] -= gone;
    }

    // The last one that is pushed runs first: what comes behind something else is pushed before it.
    private void push(int what, int p, int value) {
        if (tasks < TASKS) {
            taskWhat[tasks] = what;
            taskPart[tasks] = p;
            taskValue[tasks] = value;
            tasks++;
        }
    }

    private void runTasks(int id) {
        for (int step = 0; step < MOST_STEPS && tasks > 0; step++) {
            tasks--;
            int what = taskWhat[tasks];
            int p = taskPart[tasks];
            int value = taskValue[tasks];
            if (what == BEGIN) {
                beginPart(p);
                continue;
            }
            if (what != ITEM) {
                phase[p] = ENDED;
            }
            int user = partUser[p];
            if (user == NO_PART) {
                reachSubscription(id, what, value);
            } else if (phase[user] != RUNNING) {
                continue;
            } else if (what == ITEM && stageKind[partStage[user]] >= MERGE) {
                hearJoinedItem(user, p, value);
            } else if (what == ITEM) {
                hearItem(user, value);
            } else if (what == COMPLETE) {
                hearComplete(user, p);
            } else {
                hearError(user, p, value);
            }
        }
    }

    private void beginPart(int p) {
        int s = partStage[p];
        phase[p] = RUNNING;
        beganAfter[p] = sent;
        switch (stageKind[s]) {
            case SOURCE:
                return;
            case INTERVAL:
                due[p] = time + stageA[s];
                return;
            case JUST:
                push(COMPLETE, p, 0);
                push(ITEM, p, stageA[s]);
                return;
            case SCAN:
                held[p] = stageB[s];
                break;
            case SAMPLE:
            case LIMIT:
                due[p] = time + stageB[s];
                break;
            case MERGE:
            case ZIP:
            case LATEST:
                push(BEGIN, partY[p], 0);
                break;
            default:
                break;
        }
        push(BEGIN, partX[p], 0);
    }

    private void hearItem(int p, int v) {
        int b = stageB[partStage[p]];
        switch (stageKind[partStage[p]]) {
            case ADD:
                push(ITEM, p, v + b);
                break;
            case ABOVE:
                if (v > b) {
                    push(ITEM, p, v);
                }
                break;
            case SCAN:
                held[p] += v;
                push(ITEM, p, held[p]);
                break;
            case TAKE:
                takeItem(p, v, b);
                break;
            case SKIP:
                skipItem(p, v, b);
                break;
            case CHANGED:
                changeItem(p, v);
                break;
            case BUFFER:
                bufferItem(p, v, b);
                break;
            case COUNT:
                count[p]++;
                break;
            case DELAY:
                queueItem(p, v, time + b);
                break;
            case QUIET:
                held[p] = v;
                due[p] = time + b;
                break;
            case FIRST:
                firstItem(p, v, b);
                break;
            case SAMPLE:
                held[p] = v;
                hasHeld[p] = true;
                break;
            case LIMIT:
                due[p] = time + b;
                push(ITEM, p, v);
                break;
            default:
                break;
        }
    }

    private void hearJoinedItem(int p, int from, int v) {
        boolean fromX = from == partX[p];
        switch (stageKind[partStage[p]]) {
            case ZIP:
                if (queueSize[p] > 0 && queueIsOfX[p] != fromX) {
                    pairItem(p, from, v);
                } else {
                    queueIsOfX[p] = fromX;
                    queueItem(p, v, NO_TIME);
                }
                break;
            case LATEST:
                latestItem(p, fromX, v);
                break;
            default:
                push(ITEM, p, v);
                break;
        }
    }

    private void takeItem(int p, int v, int most) {
        count[p]++;
        if (count[p] >= most) {
            push(COMPLETE, p, 0);
        }
        push(ITEM, p, v);
    }

    private void skipItem(int p, int v, int skipped) {
        if (count[p] < skipped) {
            count[p]++;
        } else {
            push(ITEM, p, v);
        }
    }

    private void changeItem(int p, int v) {
        if (!hasHeld[p] || held[p] != v) {
            push(ITEM, p, v);
        }
        held[p] = v;
        hasHeld[p] = true;
    }

    private void bufferItem(int p, int v, int size) {
        held[p] += v;
        count[p]++;
        if (count[p] >= size) {
            push(ITEM, p, held[p]);
            held[p] = 0;
            count[p] = 0;
        }
    }

    private void queueItem(int p, int v, int dueTime) {
        if (queueSize[p] >= ROOM) {
            push(ERROR, p, CODE_TOO_MANY_WAIT);
            return;
        }
        int place = p * ROOM + queueSize[p];
        queueValue[place] = v;
        queueDue[place] = dueTime;
        queueSize[p]++;
    }

    private void firstItem(int p, int v, int age) {
        if (!hasHeld[p] || time - held[p] >= age) {
            held[p] = time;
            hasHeld[p] = true;
            push(ITEM, p, v);
        }
    }

    private void pairItem(int p, int from, int v) {
        int partner = queueValue[p * ROOM];
        int other = otherSide(p, from);
        dropFromQueue(p, 1);
        if (queueSize[p] == 0 && phase[other] == ENDED) {
            push(COMPLETE, p, 0);
        }
        push(ITEM, p, from == partX[p] ? 31 * v + partner : 31 * partner + v);
    }

    private void latestItem(int p, boolean fromX, int v) {
        if (fromX) {
            held[p] = v;
            hasHeld[p] = true;
        } else {
            heldY[p] = v;
            hasHeldY[p] = true;
        }
        if (hasHeld[p] && hasHeldY[p]) {
            push(ITEM, p, 31 * held[p] + heldY[p]);
        }
    }

    private int otherSide(int p, int side) {
        return side == partX[p] ? partY[p] : partX[p];
    }

    private void hearComplete(int p, int from) {
        int s = partStage[p];
        switch (stageKind[s]) {
            case BUFFER:
                completeBehind(p, count[p] > 0, held[p]);
                break;
            case COUNT:
                completeBehind(p, true, count[p]);
                break;
            case DELAY:
                due[p] = time + stageB[s];
                break;
            case QUIET:
                completeBehind(p, due[p] != NO_TIME, held[p]);
                break;
            case MERGE:
            case ZIP:
            case LATEST:
                if (endsWithSide(p, from)) {
                    push(COMPLETE, p, 0);
                }
                break;
            case CONCAT:
                if (from == partX[p]) {
                    push(BEGIN, partY[p], 0);
                } else {
                    push(COMPLETE, p, 0);
                }
                break;
            default:
                push(COMPLETE, p, 0);
                break;
        }
    }

    private void completeBehind(int p, boolean hasLast, int last) {
        push(COMPLETE, p, 0);
        if (hasLast) {
            push(ITEM, p, last);
        }
    }

    private boolean endsWithSide(int p, int from) {
        boolean fromX = from == partX[p];
        int other = otherSide(p, from);
        switch (stageKind[partStage[p]]) {
            case ZIP:
                return queueSize[p] == 0 || queueIsOfX[p] != fromX;
            case LATEST:
                return phase[other] == ENDED || !(fromX ? hasHeld[p] : hasHeldY[p]);
            default:
                return phase[other] == ENDED;
        }
    }

    private void hearError(int p, int from, int code) {
        if (stageKind[partStage[p]] == RESUME && from == partX[p]) {
            push(BEGIN, partY[p], 0);
        } else {
            push(ERROR, p, code);
        }
    }

    private void reachSubscription(int id, int what, int value) {
        if (subStatus[id] != ACTIVE) {
            return;
        }
        if (what == ITEM) {
            receiveItem(id, value);
        } else {
            subEnd[id] = what;
            subCode[id] = value;
            endIfNothingWaits(id);
        }
    }

    private void receiveItem(int id, int value) {
        if (subDemand[id] > 0L) {
            deliver(id, value);
        } else if (subWaiting[id] >= ROOM) {
            endSubscription(id, FAILED, CODE_NO_DEMAND);
        } else {
            waitValue[id * ROOM + subWaiting[id]] = value;
            subWaiting[id]++;
        }
    }

    private void deliver(int id, int value) {
        int place = id * HISTORY + (subDelivered[id] & (HISTORY - 1));
        history[place] = ((long) time << 32) + (value & 0xFFFFFFFFL);
        subDelivered[id]++;
        if (subDemand[id] != ENDLESS) {
            subDemand[id]--;
        }
    }

    private void deliverWaiting(int id) {
        int first = id * ROOM;
        int gone = 0;
        for (int i = 0; i < subWaiting[id]; i++) {
            if (subDemand[id] > 0L) {
                deliver(id, waitValue[first + i]);
                gone++;
            } else {
                waitValue[first + i - gone] = waitValue[first + i];
            }
        }
        subWaiting[id] -= gone;
    }

    private void endIfNothingWaits(int id) {
        if (subEnd[id] != NO_END && subWaiting[id] == 0) {
            endSubscription(id, subEnd[id] == ERROR ? FAILED : DONE, subCode[id]);
        }
    }

    private void endSubscription(int id, int status, int code) {
        subStatus[id] = status;
        subCode[id] = code;
        subWaiting[id] = 0;
    }
}
