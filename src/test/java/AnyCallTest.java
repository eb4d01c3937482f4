/**
 * LANGUAGE.md, rules 7 and 11: no call throws or fails to end, for any arguments in any state, so also far behind the
 * 512th call; and the same calls give the same answers.
 */
public final class AnyCallTest {
    private static final int RUNS = 300, CALLS = 4000;
    private static final int[] EDGES = {Integer.MIN_VALUE, Integer.MIN_VALUE + 1, -2, -1, 3, 16, 21, 31, 51, 201,
            Integer.MAX_VALUE - 1, Integer.MAX_VALUE};

    private long seed;

    public static void main(String[] args) {
        Due due = new Due();
        for (int run = 0; run < RUNS; run++) {
            long once = new AnyCallTest(run).play();
            long again = new AnyCallTest(run).play();
            due.same("run " + run + " once more", again, once);
        }
        due.end();
    }

    private AnyCallTest(int run) {
        seed = run * 104729L + 3;
    }

    /** All answers in one number. */
    private long play() {
        TimedStreams x = new TimedStreams();
        long all = 0;
        for (int k = 0; k < CALLS; k++) {
            all = 31 * all + call(x, k);
        }
        return all;
    }

    private long call(TimedStreams x, int k) {
        // Stages first: without them nearly every later call would be refused.
        int what = k < 16 ? 0 : below(400) == 0 ? 15 : below(15);
        switch (what) {
            case 0: return x.stage(number(21), number(12), number(12));
            case 1: return x.subscribe(number(3), number(12));
            case 2:
            case 3: return x.request(number(3), below(4) == 0 ? (long) number(9) << 32 : number(9)) ? 1 : 0;
            case 4: return x.cancel(number(3)) ? 1 : 0;
            case 5:
            case 6: return x.emit(number(3), number(9)) ? 1 : 0;
            case 7: return below(9) == 0 && x.complete(number(3)) ? 1 : 0;
            case 8: return below(9) == 0 && x.fail(number(3), number(6)) ? 1 : 0;
            case 9: return x.advance(number(9));
            case 10: return x.status(number(3)) * 10L + x.code(number(3));
            case 11: return x.delivered(number(3));
            case 12: return x.item(number(3), number(16));
            case 13: return x.pending(number(3));
            case 14: return x.open(number(3));
            default: x.restart(); return 0;
        }
    }

    private int number(int below) {
        int k = below(40);
        return k == 0 ? (int) next() : k < 3 ? EDGES[below(EDGES.length)] : below(below);
    }

    private int below(int n) {
        return (int) ((next() >>> 33) % n);
    }

    private long next() {
        seed = seed * 6364136223846793005L + 1442695040888963407L;
        return seed ^ (seed >>> 29);
    }
}
