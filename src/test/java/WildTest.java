/**
 * LANGUAGE.md, rule 7: no call may throw or fail to end, for any arguments in any state. So the runs go on long
 * after the 512th call, where the answers are free. Rule 11: the same calls always give the same answers.
 */
public final class WildTest implements Names {
    private static final int RUNS = 60, CALLS = 20000;
    private static final int[] EDGES = {
        LEAST, LEAST + 1, -1000, -11, -2, -1, 10, 11, 16, 31, 32, 39, 40, 63, 64, 127, 128, 256, 512, 1024, 2047, 2048,
        1 << 29, 1 << 30, 214748364, 214748365, 429496730, MOST - 1, MOST,
    };

    public static void main(String[] args) {
        Check.part("any arguments");
        for (int seed = 1; seed <= RUNS; seed++) {
            run(seed);
        }
        Check.end();
    }

    private static void run(int seed) {
        HandleKernel x = new HandleKernel();
        HandleKernel y = new HandleKernel();
        long draw = seed;
        int[] a = new int[5];
        int unlike = 0;
        for (int i = 0; i < CALLS; i++) {
            draw = next(draw);
            int method = method((int) (draw >>> 33), seed);
            for (int k = 0; k < a.length; k++) {
                draw = next(draw);
                a[k] = argument((int) (draw >>> 32), seed);
            }
            if (answer(x, method, a, seed) != answer(y, method, a, seed)) {
                unlike++;
            }
        }
        Check.due(unlike, 0);
    }

    private static long next(long draw) {
        return draw * 6364136223846793005L + 1442695040888963407L;
    }

    /** Where much is closed or killed, nothing grows to its bounds; each run has a call that it does instead. */
    private static int method(int drawn, int seed) {
        int method = drawn % 16;
        boolean ends = method == 2 || method == 3 || method == 14;
        return ends && (drawn >>> 8) % 16 < seed % 20 ? seed % 16 : method;
    }

    /** Mostly small numbers, since a run of wild ones alone is refused and goes nowhere. */
    private static int argument(int drawn, int seed) {
        int way = (drawn >>> 8) % (seed % 3 == 0 ? 3 : 24);
        if (way == 0) {
            return EDGES[(drawn & 255) % EDGES.length];
        }
        return way == 1 ? drawn : (drawn & 255) % (seed % 2 == 0 ? 4 : 11) - (way == 2 ? 1 : 0);
    }

    /** A throw would end the test, and which run led to it would not be told. */
    private static long answer(HandleKernel x, int method, int[] a, int seed) {
        try {
            return call(x, method, a);
        } catch (RuntimeException | Error thrown) {
            Check.holds(false, "run " + seed + ": call " + method + " threw " + thrown);
            return Long.MIN_VALUE;
        }
    }

    private static long call(HandleKernel x, int method, int[] a) {
        return switch (method) {
            case 0 -> x.make(a[0], a[1]);
            case 1 -> x.copy(a[0], a[1], a[2]);
            case 2 -> x.restrict(a[0], a[1], a[2] | 47);
            case 3 -> x.close(a[0], a[1]);
            case 4 -> x.signal(a[0], a[1], a[2], a[3] % 2 == 0);
            case 5 -> x.send(a[0], a[1], a[2], a[3], a[4]);
            case 6 -> x.receive(a[0], a[1]);
            case 7 -> x.got(a[0], a[1]);
            case 8 -> x.load(a[0], a[1], a[2]);
            case 9 -> x.store(a[0], a[1], a[2], a[3]);
            case 10 -> x.twin(a[0], a[1]);
            case 11 -> x.watch(a[0], a[1], a[2], a[3], a[4]);
            case 12 -> x.packet(a[0], a[1], a[2]);
            case 13 -> x.spawn(a[0], a[1]);
            case 14 -> x.kill(a[0], a[1]);
            default -> x.info(a[0], a[1], a[2]);
        };
    }
}
