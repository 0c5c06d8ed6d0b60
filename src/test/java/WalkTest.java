/** Long runs of all calls, ordinary, at the edges and wrong, each answer compared with the model's. */
public final class WalkTest {
    private static final int RUNS = 4000;
    private static final int CALLS_ALLOWED = 512;
    private static final int CALLS_TO_LOOK = 128 + 100 + 3 + 18;
    private static final Due due = new Due();

    // A fixed sequence of our own: the same runs every time.
    private static long seed = 20261115L;

    private static int next(int bound) {
        seed = seed * 6364136223846793005L + 1442695040888963407L;
        return (int) ((seed >>> 33) % bound);
    }

    /** Mostly from least to greatest, now and then just outside or far off. */
    private static int some(int least, int greatest) {
        switch (next(24)) {
            case 0: return least - 1;
            case 1: return greatest + 1;
            case 2: return least;
            case 3: return greatest;
            case 4: return next(4) == 0 ? Integer.MIN_VALUE + next(3) : least;
            case 5: return next(4) == 0 ? Integer.MAX_VALUE - next(3) : greatest;
            default: return least + next(greatest - least + 1);
        }
    }

    public static void main(String[] args) {
        for (int run = 0; run < RUNS; run++) {
            ConvKernels x = new ConvKernels();
            Model model = new Model();
            int calls = run % 2 == 0 ? CALLS_ALLOWED : next(CALLS_ALLOWED - CALLS_TO_LOOK);
            for (int call = 0; call < calls; call++) {
                oneCall(run, x, model);
            }
            if (calls + CALLS_TO_LOOK <= CALLS_ALLOWED) {
                look(run, x, model);
            }
        }
        due.end();
    }

    private static void oneCall(int run, ConvKernels x, Model model) {
        int a;
        int b;
        String at = "run " + run + ": ";
        switch (next(22)) {
            case 0: case 1: a = some(0, 127); b = some(-20, 20);
                due.is(at + "put(" + a + ", " + b + ")", x.put(a, b), model.put(a, b)); break;
            case 2: case 3: oneFill(at, x, model); break;
            case 4: case 5: case 6: case 7: a = some(0, 17); b = some(-9, 9);
                due.is(at + "kernel(" + a + ", " + b + ")", x.kernel(a, b), model.kernel(a, b)); break;
            case 8: a = some(0, 127);
                due.is(at + "pixel(" + a + ")", x.pixel(a), model.pixel(a)); break;
            case 9: a = some(1, 2); b = some(0, 1);
                due.is(at + "shape(" + a + ", " + b + ")", x.shape(a, b), model.shape(a, b)); break;
            case 10: case 11: due.is(at + "move()", x.move(), model.move()); break;
            case 12: due.is(at + "width()", x.width(), model.width()); break;
            case 13: case 14: a = some(0, 7); b = some(0, 7);
                due.is(at + "result(" + a + ", " + b + ")", x.result(a, b), model.result(a, b)); break;
            case 15: due.is(at + "floor()", x.floor(), model.floor()); break;
            case 16: due.is(at + "thin()", x.thin(), model.thin()); break;
            case 17: a = some(1, 100);
                due.is(at + "divide(" + a + ")", x.divide(a), model.divide(a)); break;
            case 18: a = some(0, 1);
                due.is(at + "take(" + a + ")", x.take(a), model.take(a)); break;
            case 19: due.is(at + "sum()", x.sum(), model.sum()); break;
            case 20: due.is(at + "peak()", x.peak(), model.peak()); break;
            default: a = some(0, 3);
                due.is(at + "way(" + a + ")", x.way(a), model.way(a)); break;
        }
    }

    private static void oneFill(String at, ConvKernels x, Model model) {
        int c = some(0, 1);
        int a = some(-20, 20);
        int slopes = 100 * (some(-10, 10) + 10) + some(-10, 10) + 10;
        int e = some(-3, 3);
        String call = "fill(" + c + ", " + a + ", " + slopes + ", " + e + ")";
        due.is(at + call, x.fill(c, a, slopes, e), model.fill(c, a, slopes, e));
    }

    private static void look(int run, ConvKernels o, Model model) {
        String at = "run " + run + ", at its end: ";
        due.is(at + "width()", o.width(), model.width());
        due.is(at + "sum()", o.sum(), model.sum());
        due.is(at + "peak()", o.peak(), model.peak());
        for (int place = 0; place < 128; place++) {
            due.is(at + "pixel(" + place + ")", o.pixel(place), model.pixel(place));
        }
        for (int y = -1; y < 9; y++) {
            for (int x = -1; x < 9; x++) {
                due.is(at + "result(" + x + ", " + y + ")", o.result(x, y), model.result(x, y));
            }
        }
        for (int place = 0; place < 18; place++) {
            due.is(at + "kernel(" + place + ", 0)", o.kernel(place, 0), model.kernel(place, 0));
        }
    }
}
