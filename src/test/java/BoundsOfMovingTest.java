/** The boundary cases of promises 4, 6, 7, 8, 9 and 16 (kernel, shape, move, width, result, way). */
public final class BoundsOfMovingTest {
    private static final Due due = new Due();
    private static final Bounds bounds = new Bounds(due);

    public static void main(String[] args) {
        due.run(
                BoundsOfMovingTest::kernelPlaces,
                BoundsOfMovingTest::kernelNumbers,
                BoundsOfMovingTest::kernelAnswersTheNumberBefore,
                BoundsOfMovingTest::shapeStrides,
                BoundsOfMovingTest::shapeMargins,
                BoundsOfMovingTest::shapeAnswersTheWidth,
                BoundsOfMovingTest::moveAnswersTheWidth,
                BoundsOfMovingTest::moveFromWideToNarrowAndBack,
                BoundsOfMovingTest::widthOfTheResult,
                BoundsOfMovingTest::resultWhereThereIsNone,
                BoundsOfMovingTest::wayNumbers);
    }

    private static void kernelPlaces() {
        due.sentence("Promise 4", "BAD_ARG if the place is not 0 to 17");
        ConvKernels o = new ConvKernels();
        due.is("kernel(0, 3)", o.kernel(0, 3), 0);
        due.is("kernel(17, 4)", o.kernel(17, 4), 0);
        o.put(0, 1);
        o.put(127, 1);
        o.move();
        due.is("kernel 0 is k(0, 0, 0): result(1, 1)", o.result(1, 1), 3);
        due.is("kernel 17 is k(1, 2, 2): result(6, 6)", o.result(6, 6), 4);
        for (int place : Bounds.outside(0, 17)) {
            bounds.refused("kernel(" + place + ", 9)", x -> x.kernel(place, 9));
            bounds.refused("kernel(" + place + ", -9)", x -> x.kernel(place, -9));
        }
    }

    private static void kernelNumbers() {
        due.sentence("Promise 4", "or v not -9 to 9");
        for (int place = 0; place < 18; place++) {
            int at = place;
            ConvKernels o = new ConvKernels();
            due.is("kernel(" + place + ", -9)", o.kernel(place, -9), 0);
            due.is("kernel(" + place + ", 9)", o.kernel(place, 9), -9);
            due.is("kernel(" + place + ", 0)", o.kernel(place, 0), 9);
            for (int v : Bounds.outside(-9, 9)) {
                bounds.refused("kernel(" + place + ", " + v + ")", x -> x.kernel(at, v));
            }
        }
        bounds.refused("kernel(18, 10)", x -> x.kernel(18, 10));
        bounds.refused("kernel(-1, -10)", x -> x.kernel(-1, -10));
    }

    private static void kernelAnswersTheNumberBefore() {
        due.sentence("Promise 4", "Otherwise the number before.");
        for (int place : new int[] {0, 8, 9, 17}) {
            ConvKernels o = new ConvKernels();
            due.is("kernel(" + place + ", 0) of a new object", o.kernel(place, 0), 0);
            int before = 0;
            for (int v = -9; v <= 9; v++) {
                due.is("kernel(" + place + ", " + v + ")", o.kernel(place, v), before);
                due.is("kernel(" + place + ", " + v + ") again", o.kernel(place, v), v);
                o.kernel(place, 10);
                before = v;
            }
            o.kernel(place, -10);
            due.is("kernel(" + place + ", 0) after a refused one", o.kernel(place, 0), 9);
        }
    }

    private static void shapeStrides() {
        due.sentence("Promise 6", "BAD_ARG if s is not 1 or 2");
        for (int m = 0; m <= 1; m++) {
            int margin = m;
            due.is("shape(1, " + m + ")", new ConvKernels().shape(1, m), m == 1 ? 8 : 6);
            due.is("shape(2, " + m + ")", new ConvKernels().shape(2, m), m == 1 ? 4 : 3);
            for (int s : Bounds.outside(1, 2)) {
                bounds.refused("shape(" + s + ", " + m + ")", x -> x.shape(s, margin));
            }
        }
    }

    private static void shapeMargins() {
        due.sentence("Promise 6", "or m not 0 or 1");
        for (int s = 1; s <= 2; s++) {
            int stride = s;
            due.is("shape(" + s + ", 0)", new ConvKernels().shape(s, 0), s == 1 ? 6 : 3);
            due.is("shape(" + s + ", 1)", new ConvKernels().shape(s, 1), s == 1 ? 8 : 4);
            for (int m : Bounds.outside(0, 1)) {
                bounds.refused("shape(" + s + ", " + m + ")", x -> x.shape(stride, m));
            }
        }
        bounds.refused("shape(0, -1)", x -> x.shape(0, -1));
        bounds.refused("shape(3, 2)", x -> x.shape(3, 2));
    }

    private static void shapeAnswersTheWidth() {
        due.sentence("Promise 6", "Otherwise the W that moving would give.");
        for (int[] from : Bounds.SHAPES) {
            for (int[] to : Bounds.SHAPES) {
                ConvKernels o = Bounds.flat(8, 2);
                o.shape(from[0], from[1]);
                due.is("shape(" + to[0] + ", " + to[1] + ")", o.shape(to[0], to[1]), to[2]);
                due.is("width() before moving", o.width(), 8);
                due.is("sum() before moving", o.sum(), 128);
                due.is("move()", o.move(), to[2]);
            }
        }
    }

    private static void moveAnswersTheWidth() {
        due.sentence("Promise 7", "Answers W.");
        due.is("move() of a new object", new ConvKernels().move(), 8);
        for (int[] shape : Bounds.SHAPES) {
            for (int way = 0; way < 4; way++) {
                ConvKernels o = new ConvKernels();
                o.way(way);
                o.shape(shape[0], shape[1]);
                String when = "way " + way + ", shape " + shape[0] + " " + shape[1];
                due.is(when + ": move() of zeros", o.move(), shape[2]);
                due.is(when + ": width()", o.width(), shape[2]);
                due.is(when + ": sum()", o.sum(), 0);
                o.thin();
                due.is(when + ": move() after thin()", o.move(), shape[2]);
            }
        }
    }

    private static void moveFromWideToNarrowAndBack() {
        due.sentence("Promise 7", "Moves the kernel.");
        for (int way = 0; way < 4; way++) {
            for (int[] from : Bounds.SHAPES) {
                for (int[] to : Bounds.SHAPES) {
                    moveAfterMove(way, from, to);
                }
            }
        }
    }

    /** Nothing of the result before may be seen in the new one, whatever the two widths. */
    private static void moveAfterMove(int way, int[] from, int[] to) {
        ConvKernels o = new ConvKernels();
        o.way(way);
        o.fill(0, 20, 1010, 0);
        o.kernel(4, 9);
        o.shape(from[0], from[1]);
        o.move();
        o.fill(0, 0, 1010, 0);
        o.fill(1, 1, 1010, 0);
        o.kernel(13, 2);
        o.shape(to[0], to[1]);
        String when = "way " + way + ", from W " + from[2];
        due.is(when + ": move()", o.move(), to[2]);
        for (int at = 0; at < 100; at++) {
            int x = at % 10 - 1;
            int y = at / 10 - 1;
            boolean there = x >= 0 && y >= 0 && x < to[2] && y < to[2];
            due.is(when + " to W " + to[2] + ": result(" + x + ", " + y + ")", o.result(x, y), there ? 2 : 0);
        }
    }

    private static void widthOfTheResult() {
        due.sentence("Promise 8", "W of the result.");
        due.is("width() of a new object", new ConvKernels().width(), 0);
        for (int[] shape : Bounds.SHAPES) {
            ConvKernels o = new ConvKernels();
            o.shape(shape[0], shape[1]);
            due.is("width() after shape alone", o.width(), 0);
            o.move();
            due.is("width() after move", o.width(), shape[2]);
            o.shape(1, 2);
            o.floor();
            o.divide(2);
            o.divide(101);
            o.take(0);
            due.is("width() is left by floor, divide, take and what is refused", o.width(), shape[2]);
            for (int width = shape[2] / 2; width > 0; width /= 2) {
                o.thin();
                due.is("width() after thin", o.width(), width);
            }
            o.thin();
            due.is("width() at last", o.width(), 0);
        }
        bounds.changesNothing("width()", x -> x.width());
    }

    private static void resultWhereThereIsNone() {
        due.sentence("Promise 9", "r(x, y); 0 if there is none.");
        for (int width : new int[] {8, 6, 4, 3, 2, 1, 0}) {
            ConvKernels o = Bounds.flat(width, -7);
            String when = "W " + width;
            for (int y = 0; y < width; y++) {
                for (int x = 0; x < width; x++) {
                    due.is(when + ": result(" + x + ", " + y + ")", o.result(x, y), -7);
                }
            }
            int last = Math.max(0, width - 1);
            for (int far : Bounds.outside(0, width - 1)) {
                for (int near : new int[] {0, last, far}) {
                    due.is(when + ": result(" + far + ", " + near + ")", o.result(far, near), 0);
                    due.is(when + ": result(" + near + ", " + far + ")", o.result(near, far), 0);
                }
            }
            // 8 y + x is a place of the result here, though x or y is not; the last three by wrapping around.
            int[][] strays = {{8, -1}, {-8, 1}, {15, -1}, {-1, 1}, {8, 0}, {9, 0},
                {0, 1 << 29}, {0, 1 << 30}, {0, Bounds.LEAST}};
            for (int[] stray : strays) {
                due.is(when + ": result(" + stray[0] + ", " + stray[1] + ")", o.result(stray[0], stray[1]), 0);
            }
        }
        bounds.changesNothing("result(0, 0)", x -> x.result(0, 0));
        bounds.changesNothing("result(8, 8)", x -> x.result(8, 8));
    }

    private static void wayNumbers() {
        due.sentence("Promise 16", "BAD_ARG if n is not 0 to 3, else 0.");
        for (int state = 0; state < Bounds.STATES; state++) {
            for (int n = 0; n <= 3; n++) {
                due.is("state " + state + ": way(" + n + ")", Bounds.state(state).way(n), 0);
            }
        }
        for (int n : Bounds.outside(0, 3)) {
            bounds.refused("way(" + n + ")", x -> x.way(n));
        }
        bounds.changesNothing("way(0)", x -> x.way(0));
        bounds.changesNothing("way(3)", x -> x.way(3));
    }
}
