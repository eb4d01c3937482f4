import java.util.ArrayList;
import java.util.List;

/**
 * The document's words as a plain computation: it keeps a log of the calls, and on each question works out whole streams
 * with the moments of all that is in them. It shares no way of working with the class, so that the two can be compared.
 */
final class Model {
    private static final int ITEM = 0, COMPLETE = 1, ERROR = 2;
    private static final long MOST = Long.MAX_VALUE;

    private record Moment(int time, boolean isCall, int number, int part) implements Comparable<Moment> {
        public int compareTo(Moment m) {
            if (time != m.time) return Integer.compare(time, m.time);
            if (isCall != m.isCall) return isCall ? 1 : -1;
            if (number != m.number) return Integer.compare(number, m.number);
            return Integer.compare(part, m.part);
        }

        boolean before(Moment m) {
            return compareTo(m) < 0;
        }
    }

    private record Event(Moment at, int what, int value, boolean ofY) {
        Event(Moment at, int what, int value) {
            this(at, what, value, false);
        }
    }

    private record Stage(int kind, int a, int b) { }

    private record Send(int time, int call, int source, int what, int value) { }

    private record Ask(int time, int call, boolean isCancel, long n) { }

    /** A part that has begun; the whole chain of its users is behind `user`. */
    private static final class Part {
        final Part user;
        final int source;
        boolean ended;

        Part(Part user, int source) {
            this.user = user;
            this.source = source;
        }

        boolean isOpen() {
            for (Part p = this; p != null; p = p.user) {
                if (p.ended) return false;
            }
            return true;
        }
    }

    private static final class Subscription {
        int stage;
        Moment beginning;
        final List<Ask> asks = new ArrayList<>();

        // what `play` works out
        int status;
        int code;
        long demand;
        List<Integer> waiting;
        List<Long> delivered;
        List<Part> parts;
    }

    private final List<Stage> stages = new ArrayList<>();
    private final List<Send> sends = new ArrayList<>();
    private final boolean[] ended = new boolean[3];
    private final Subscription[] subscriptions = new Subscription[3];
    private int now = 0;
    private int calls = 0;
    private List<Part> parts;

    int stage(int kind, int a, int b) {
        if (kind < 0 || kind > 20) return TimedStreams.BAD;
        boolean fine = switch (kind) {
            case 0 -> in(a, 0, 2);
            case 1 -> in(a, 5, 50);
            case 2 -> true;
            case 6 -> isStage(a) && in(b, 1, 8);
            case 7 -> isStage(a) && in(b, 0, 8);
            case 9 -> isStage(a) && in(b, 2, 5);
            case 11, 12, 13, 14, 15 -> isStage(a) && in(b, 1, 30);
            case 16, 17, 18, 19, 20 -> isStage(a) && isStage(b);
            default -> isStage(a);
        };
        if (!fine) return TimedStreams.BAD;
        if (stages.size() == 12) return TimedStreams.FULL;
        stages.add(new Stage(kind, a, b));
        return stages.size() - 1;
    }

    int subscribe(int id, int stage) {
        if (!in(id, 0, 2) || !isStage(stage)) return TimedStreams.BAD;
        if (countParts(stage) > 9) return TimedStreams.FULL;
        Subscription sub = new Subscription();
        sub.stage = stage;
        sub.beginning = new Moment(now, true, ++calls, -1);
        subscriptions[id] = sub;
        return countParts(stage);
    }

    boolean request(int id, long n) {
        return ask(id, false, n);
    }

    boolean cancel(int id) {
        return ask(id, true, 0);
    }

    private boolean ask(int id, boolean isCancel, long n) {
        if (status(id) != TimedStreams.ACTIVE) return false;
        if (!isCancel && subscriptions[id].asks.size() == 32) return false;
        subscriptions[id].asks.add(new Ask(now, ++calls, isCancel, n));
        return true;
    }

    boolean emit(int s, int v) {
        return send(s, ITEM, v);
    }

    boolean complete(int s) {
        return send(s, COMPLETE, 0);
    }

    boolean fail(int s, int code) {
        return in(code, 1, 5) && send(s, ERROR, code);
    }

    private boolean send(int s, int what, int value) {
        if (!in(s, 0, 2) || ended[s] || sends.size() == 32) return false;
        sends.add(new Send(now, ++calls, s, what, value));
        ended[s] = what != ITEM;
        return true;
    }

    int advance(int d) {
        if (d < 0 || (long) now + d > 200) return TimedStreams.BAD;
        now += d;
        return now;
    }

    int status(int id) {
        Subscription sub = played(id);
        return sub == null ? TimedStreams.NONE : sub.status;
    }

    int code(int id) {
        return status(id) == TimedStreams.FAILED ? subscriptions[id].code : 0;
    }

    int delivered(int id) {
        Subscription sub = played(id);
        return sub == null ? 0 : sub.delivered.size();
    }

    long item(int id, int k) {
        int n = delivered(id);
        return k < 0 || k > 15 || k >= n ? -1 : subscriptions[id].delivered.get(n - 1 - k);
    }

    int pending(int id) {
        if (status(id) != TimedStreams.ACTIVE) return 0;
        Subscription sub = subscriptions[id];
        return 16 * sub.waiting.size() + (int) Math.min(15, sub.demand);
    }

    int open(int s) {
        int found = 0;
        for (int id = 0; id < 3; id++) {
            if (status(id) != TimedStreams.ACTIVE) continue;
            for (Part p : subscriptions[id].parts) {
                if (p.source == s && p.isOpen()) found++;
            }
        }
        return in(s, 0, 2) ? found : 0;
    }

    void restart() {
        sends.clear();
        for (int i = 0; i < 3; i++) {
            ended[i] = false;
            subscriptions[i] = null;
        }
        now = 0;
    }

    private static boolean in(int n, int least, int most) {
        return n >= least && n <= most;
    }

    private boolean isStage(int n) {
        return in(n, 0, stages.size() - 1);
    }

    private int countParts(int stage) {
        Stage s = stages.get(stage);
        int n = 1;
        if (s.kind >= 3) n += countParts(s.a);
        if (s.kind >= 16) n += countParts(s.b);
        return n;
    }

    private Subscription played(int id) {
        if (!in(id, 0, 2) || subscriptions[id] == null) return null;
        play(subscriptions[id]);
        return subscriptions[id];
    }

    /** What a subscription has come to, out of its stream and of the calls that were made to it, in the order of moments. */
    private void play(Subscription sub) {
        parts = new ArrayList<>();
        List<Event> stream = stream(sub.stage, sub.beginning, 0, null);
        sub.parts = parts;
        sub.status = TimedStreams.ACTIVE;
        sub.code = 0;
        sub.demand = 0;
        sub.waiting = new ArrayList<>();
        sub.delivered = new ArrayList<>();
        Event end = null;
        int e = 0;
        int q = 0;
        while (sub.status == TimedStreams.ACTIVE && (e < stream.size() || q < sub.asks.size())) {
            Ask ask = q < sub.asks.size() ? sub.asks.get(q) : null;
            Event event = e < stream.size() ? stream.get(e) : null;
            int time;
            if (event != null && (ask == null || event.at.before(new Moment(ask.time, true, ask.call, 0)))) {
                e++;
                time = event.at.time;
                if (event.what != ITEM) {
                    end = event;
                } else if (sub.waiting.size() == 8 && sub.demand == 0) {
                    finish(sub, TimedStreams.FAILED, 7);
                } else {
                    sub.waiting.add(event.value);
                }
            } else {
                q++;
                time = ask.time;
                if (ask.isCancel) {
                    finish(sub, TimedStreams.CANCELLED, 0);
                } else if (ask.n < 1) {
                    finish(sub, TimedStreams.FAILED, 6);
                } else {
                    sub.demand = sub.demand + ask.n < 0 ? MOST : sub.demand + ask.n;
                }
            }
            while (sub.status == TimedStreams.ACTIVE && sub.demand > 0 && !sub.waiting.isEmpty()) {
                sub.delivered.add(((long) time << 32) | Integer.toUnsignedLong(sub.waiting.remove(0)));
                if (sub.demand != MOST) sub.demand--;
            }
            if (sub.status == TimedStreams.ACTIVE && end != null && sub.waiting.isEmpty()) {
                finish(sub, end.what == ERROR ? TimedStreams.FAILED : TimedStreams.DONE, end.value);
            }
        }
    }

    private static void finish(Subscription sub, int status, int code) {
        sub.status = status;
        sub.code = code;
    }

    /** All of a stage's stream until now; its parts are numbered from `first` on. */
    private List<Event> stream(int stage, Moment beginning, int first, Part user) {
        Stage s = stages.get(stage);
        Part part = new Part(user, s.kind == 0 ? s.a : -1);
        parts.add(part);
        int self = first + countParts(stage) - 1;
        List<Event> out;
        if (s.kind == 0) {
            out = source(s.a, beginning, self);
        } else if (s.kind == 1) {
            out = interval(s.a, beginning, self);
        } else if (s.kind == 2) {
            out = List.of(new Event(beginning, ITEM, s.a), new Event(beginning, COMPLETE, 0));
        } else {
            List<Event> x = stream(s.a, beginning, first, part);
            int firstOfY = first + countParts(s.a);
            if (s.kind < 11) {
                out = plain(s, x);
            } else if (s.kind < 16) {
                out = timed(s, x, beginning, self);
            } else if (s.kind < 19) {
                out = joined(s.kind, merged(x, stream(s.b, beginning, firstOfY, part)));
            } else {
                out = new ArrayList<>(x);
                Event last = x.isEmpty() ? null : x.get(x.size() - 1);
                if (last != null && last.what == (s.kind == 19 ? COMPLETE : ERROR)) {
                    out.remove(out.size() - 1);
                    out.addAll(stream(s.b, last.at, firstOfY, part));
                }
            }
        }
        part.ended = !out.isEmpty() && out.get(out.size() - 1).what != ITEM;
        return out;
    }

    private List<Event> source(int a, Moment beginning, int self) {
        List<Event> out = new ArrayList<>();
        for (Send send : sends) {
            boolean isLater = beginning.isCall ? send.call > beginning.number : send.time >= beginning.time;
            if (send.source == a && isLater) {
                out.add(new Event(new Moment(send.time, true, send.call, self), send.what, send.value));
            }
        }
        return out;
    }

    private List<Event> interval(int a, Moment beginning, int self) {
        List<Event> out = new ArrayList<>();
        for (int k = 1; beginning.time + k * a <= now; k++) {
            out.add(new Event(timer(beginning.time + k * a, self), ITEM, k - 1));
        }
        return out;
    }

    private static Moment timer(int time, int self) {
        return new Moment(time, false, self, 0);
    }

    private static List<Event> plain(Stage s, List<Event> x) {
        List<Event> out = new ArrayList<>();
        List<Integer> had = new ArrayList<>();
        for (Event e : x) {
            int n = had.size();
            if (e.what == ITEM) {
                had.add(e.value);
                Integer passed = switch (s.kind) {
                    case 3 -> (Integer) (e.value + s.b);
                    case 4 -> e.value > s.b ? e.value : null;
                    case 5 -> (Integer) (s.b + sum(had, 0));
                    case 6 -> (Integer) e.value;
                    case 7 -> n >= s.b ? e.value : null;
                    case 8 -> n == 0 || had.get(n - 1) != e.value ? e.value : null;
                    case 9 -> (n + 1) % s.b == 0 ? sum(had, n + 1 - s.b) : null;
                    default -> null;
                };
                if (passed != null) out.add(new Event(e.at, ITEM, passed));
                if (s.kind == 6 && n + 1 == s.b) {
                    out.add(new Event(e.at, COMPLETE, 0));
                    return out;
                }
            } else {
                if (e.what == COMPLETE && s.kind == 9 && n % s.b != 0) {
                    out.add(new Event(e.at, ITEM, sum(had, n - n % s.b)));
                }
                if (e.what == COMPLETE && s.kind == 10) out.add(new Event(e.at, ITEM, n));
                out.add(e);
            }
        }
        return out;
    }

    private static int sum(List<Integer> items, int from) {
        int sum = 0;
        for (int i = from; i < items.size(); i++) {
            sum += items.get(i);
        }
        return sum;
    }

    private List<Event> timed(Stage s, List<Event> x, Moment beginning, int self) {
        return switch (s.kind) {
            case 11 -> delay(x, s.b, self);
            case 12 -> quiet(x, s.b, self);
            case 13 -> first(x, s.b);
            case 14 -> sample(x, s.b, beginning, self);
            default -> limit(x, s.b, beginning, self);
        };
    }

    private List<Event> delay(List<Event> x, int b, int self) {
        List<Event> late = new ArrayList<>();
        Event end = null;
        for (Event e : x) {
            Moment due = timer(e.at.time + b, self);
            long waiting = late.stream().filter(w -> e.at.before(w.at)).count();
            if (e.what == ITEM && waiting < 8) {
                late.add(new Event(due, ITEM, e.value));
            } else if (e.what == COMPLETE) {
                late.add(new Event(due, COMPLETE, 0));
            } else {
                end = e.what == ERROR ? e : new Event(e.at, ERROR, 8);
                break;
            }
        }
        List<Event> out = new ArrayList<>();
        for (Event e : late) {
            if (e.at.time <= now && (end == null || e.at.before(end.at))) out.add(e);
        }
        if (end != null) out.add(end);
        return out;
    }

    private List<Event> quiet(List<Event> x, int b, int self) {
        List<Event> out = new ArrayList<>();
        for (int i = 0; i < x.size(); i++) {
            Event e = x.get(i);
            if (e.what != ITEM) {
                out.add(e);
                continue;
            }
            Moment due = timer(e.at.time + b, self);
            Event next = i + 1 < x.size() ? x.get(i + 1) : null;
            if (next == null || due.before(next.at)) {
                if (due.time <= now) out.add(new Event(due, ITEM, e.value));
            } else if (next.what == COMPLETE) {
                out.add(new Event(next.at, ITEM, e.value));
            }
        }
        return out;
    }

    private static List<Event> first(List<Event> x, int b) {
        List<Event> out = new ArrayList<>();
        for (Event e : x) {
            boolean isYoung = e.what == ITEM && !out.isEmpty() && e.at.time - out.get(out.size() - 1).at.time < b;
            if (!isYoung) out.add(e);
        }
        return out;
    }

    private List<Event> sample(List<Event> x, int b, Moment beginning, int self) {
        List<Event> out = new ArrayList<>();
        Event end = x.isEmpty() || x.get(x.size() - 1).what == ITEM ? null : x.get(x.size() - 1);
        Moment last = beginning;
        for (int k = 1; beginning.time + k * b <= now; k++) {
            Moment at = timer(beginning.time + k * b, self);
            if (end != null && end.at.before(at)) break;
            Event latest = null;
            for (Event e : x) {
                if (e.what == ITEM && !e.at.before(last) && e.at.before(at)) latest = e;
            }
            if (latest != null) out.add(new Event(at, ITEM, latest.value));
            last = at;
        }
        if (end != null) out.add(end);
        return out;
    }

    private List<Event> limit(List<Event> x, int b, Moment beginning, int self) {
        List<Event> out = new ArrayList<>();
        Moment due = timer(beginning.time + b, self);
        for (Event e : x) {
            if (due.before(e.at)) break;
            out.add(e);
            if (e.what != ITEM) return out;
            due = timer(e.at.time + b, self);
        }
        if (due.time <= now) out.add(new Event(due, ERROR, 9));
        return out;
    }

    private static List<Event> merged(List<Event> x, List<Event> y) {
        List<Event> out = new ArrayList<>();
        int j = 0;
        for (Event e : x) {
            for (; j < y.size() && y.get(j).at.before(e.at); j++) {
                out.add(new Event(y.get(j).at, y.get(j).what, y.get(j).value, true));
            }
            out.add(new Event(e.at, e.what, e.value, false));
        }
        for (; j < y.size(); j++) {
            out.add(new Event(y.get(j).at, y.get(j).what, y.get(j).value, true));
        }
        return out;
    }

    private static List<Event> joined(int kind, List<Event> both) {
        List<Event> out = new ArrayList<>();
        List<Integer> xs = new ArrayList<>();
        List<Integer> ys = new ArrayList<>();
        boolean xDone = false;
        boolean yDone = false;
        for (Event e : both) {
            int pairs = Math.min(xs.size(), ys.size());
            if (e.what == ERROR) {
                out.add(new Event(e.at, ERROR, e.value));
                return out;
            }
            if (e.what == COMPLETE) {
                xDone |= !e.ofY;
                yDone |= e.ofY;
            } else {
                (e.ofY ? ys : xs).add(e.value);
                if (kind == 16) {
                    out.add(new Event(e.at, ITEM, e.value));
                } else if (kind == 18 && !xs.isEmpty() && !ys.isEmpty()) {
                    out.add(new Event(e.at, ITEM, 31 * xs.get(xs.size() - 1) + ys.get(ys.size() - 1)));
                } else if (kind == 17 && Math.min(xs.size(), ys.size()) > pairs) {
                    out.add(new Event(e.at, ITEM, 31 * xs.get(pairs) + ys.get(pairs)));
                } else if (kind == 17 && Math.abs(xs.size() - ys.size()) > 8) {
                    out.add(new Event(e.at, ERROR, 8));
                    return out;
                }
            }
            boolean isComplete = switch (kind) {
                case 16 -> xDone && yDone;
                case 17 -> xDone && xs.size() <= ys.size() || yDone && ys.size() <= xs.size();
                default -> xDone && yDone || xDone && xs.isEmpty() || yDone && ys.isEmpty();
            };
            if (isComplete) {
                out.add(new Event(e.at, COMPLETE, 0));
                return out;
            }
        }
        return out;
    }
}
