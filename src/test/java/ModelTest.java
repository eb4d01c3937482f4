/** Many runs of calls, always the same ones, on the class and on the model side by side: all promises at once. */
public final class ModelTest {
    private static final int RUNS = 6000;
    private static final int STEPS = 105;

    private final Due due;
    private final int run;
    private final TimedStreams x = new TimedStreams();
    private final Model model = new Model();
    private long seed;
    private int stages = 0;

    private ModelTest(Due due, int run) {
        this.due = due;
        this.run = run;
        this.seed = run * 7919L + 17;
    }

    public static void main(String[] args) {
        Due due = new Due();
        int runs = args.length > 0 ? Integer.parseInt(args[0]) : RUNS;
        for (int run = 0; run < runs && due.wrong() < 20; run++) {
            new ModelTest(due, run).play();
        }
        due.end();
    }

    /** Stays below 512 calls, since what comes behind is not promised. */
    private void play() {
        makeStages(13);
        for (int step = 0; step < STEPS; step++) {
            act();
            for (int i = 0; i < 3; i++) {
                look(below(6), wild(0, 2), wild(0, 15));
            }
        }
        for (int id = 0; id < 3; id++) {
            for (int k = 0; k < 16; k++) {
                look(3, id, k);
            }
            look(0, id, 0);
            look(1, id, 0);
            look(2, id, 0);
            look(4, id, 0);
            look(5, id, 0);
        }
    }

    private void makeStages(int n) {
        for (int i = 0; i < n; i++) {
            int kind = i < 2 ? below(3) : below(12) == 0 ? below(3) : 3 + below(18);
            stage(kind);
        }
    }

    private void stage(int kind) {
        int a = kind == 0 ? wild(0, 2) : kind == 1 ? wild(5, below(2) == 0 ? 8 : 50) : kind == 2 ? number() : someStage();
        int b = switch (kind) {
            case 3, 4, 5 -> number();
            case 6 -> wild(1, below(2) == 0 ? 3 : 8);
            case 7 -> wild(0, below(2) == 0 ? 2 : 8);
            case 9 -> wild(2, 5);
            case 11, 12, 13, 14, 15 -> wild(1, below(2) == 0 ? 12 : 30);
            case 16, 17, 18, 19, 20 -> someStage();
            default -> number();
        };
        int want = model.stage(kind, a, b);
        stages += want >= 0 ? 1 : 0;
        same("stage(" + kind + ", " + a + ", " + b + ")", x.stage(kind, a, b), want);
    }

    private int someStage() {
        int k = below(40);
        return k == 0 ? -1 : k == 1 ? stages : stages == 0 ? 0 : below(2) == 0 ? stages - 1 - below(Math.min(3, stages)) : below(stages);
    }

    private int number() {
        return switch (below(8)) {
            case 0 -> Integer.MAX_VALUE - below(3);
            case 1 -> Integer.MIN_VALUE + below(3);
            case 2 -> (int) next();
            default -> below(9) - 3;
        };
    }

    private void act() {
        int id = wild(0, 2);
        int s = wild(0, below(2) == 0 ? 0 : 2);
        int what = below(100);
        if (what < 14) {
            int stage = below(3) == 0 ? stages - 1 : someStage();
            same("subscribe(" + id + ", " + stage + ")", x.subscribe(id, stage), model.subscribe(id, stage));
        } else if (what < 34) {
            long n = demand();
            same("request(" + id + ", " + n + ")", x.request(id, n), model.request(id, n));
        } else if (what < 36) {
            same("cancel(" + id + ")", x.cancel(id), model.cancel(id));
        } else if (what < 64) {
            int v = number();
            same("emit(" + s + ", " + v + ")", x.emit(s, v), model.emit(s, v));
        } else if (what < 68) {
            same("complete(" + s + ")", x.complete(s), model.complete(s));
        } else if (what < 71) {
            int code = wild(1, 5);
            same("fail(" + s + ", " + code + ")", x.fail(s, code), model.fail(s, code));
        } else if (what < 97) {
            int d = below(60) == 0 ? number() : below(8) == 0 ? below(40) : below(6);
            same("advance(" + d + ")", x.advance(d), model.advance(d));
        } else if (what < 99) {
            stage(below(21));
        } else {
            say("restart()");
            x.restart();
            model.restart();
        }
    }

    private long demand() {
        return switch (below(30)) {
            case 0 -> Long.MAX_VALUE;
            case 1 -> Long.MAX_VALUE - below(3);
            case 2 -> -below(2);
            case 3 -> Long.MIN_VALUE;
            default -> 1 + below(5);
        };
    }

    private void look(int what, int id, int k) {
        switch (what) {
            case 0 -> same("status(" + id + ")", x.status(id), model.status(id));
            case 1 -> same("code(" + id + ")", x.code(id), model.code(id));
            case 2 -> same("delivered(" + id + ")", x.delivered(id), model.delivered(id));
            case 3 -> same("item(" + id + ", " + k + ")", x.item(id, k), model.item(id, k));
            case 4 -> same("pending(" + id + ")", x.pending(id), model.pending(id));
            default -> same("open(" + id + ")", x.open(id), model.open(id));
        }
    }

    private void same(String call, boolean got, boolean want) {
        same(call, got ? 1 : 0, want ? 1 : 0);
    }

    private void same(String call, long got, long want) {
        say(call + " -> " + got);
        due.same("run " + run + ": " + call, got, want);
    }

    private void say(String text) {
        if (run == Integer.getInteger("tell", -1)) {
            System.out.println(text);
        }
    }

    /** A number in the range, or seldom one just outside. */
    private int wild(int least, int most) {
        int k = below(60);
        return k == 0 ? least - 1 : k == 1 ? most + 1 : least + below(most - least + 1);
    }

    private int below(int n) {
        return (int) ((next() >>> 33) % n);
    }

    private long next() {
        seed = seed * 6364136223846793005L + 1442695040888963407L;
        return seed ^ (seed >>> 29);
    }
}
