/** The boundary cases of promises 1, 2, 3 and 5 (a new object, put, fill, pixel), a method for each sentence. */
public final class BoundsOfPictureTest {
    private static final Due due = new Due();
    private static final Bounds bounds = new Bounds(due);

    public static void main(String[] args) {
        due.run(
                BoundsOfPictureTest::newNumbersAreZero,
                BoundsOfPictureTest::newStrideAndMarginAreOne,
                BoundsOfPictureTest::newHasNoResult,
                BoundsOfPictureTest::putPlaces,
                BoundsOfPictureTest::putNumbers,
                BoundsOfPictureTest::putAnswersTheNumberBefore,
                BoundsOfPictureTest::fillCutsWhatIsTooSmall,
                BoundsOfPictureTest::fillCutsWhatIsTooLarge,
                BoundsOfPictureTest::fillCutsTheSumAlone,
                BoundsOfPictureTest::fillLayers,
                BoundsOfPictureTest::fillFirstNumbers,
                BoundsOfPictureTest::fillTwists,
                BoundsOfPictureTest::fillSlopes,
                BoundsOfPictureTest::fillSlopesOfNoNumbers,
                BoundsOfPictureTest::fillAnswersZero,
                BoundsOfPictureTest::pixelPlaces);
    }

    private static void newNumbersAreZero() {
        due.sentence("Promise 1", "All numbers are 0");
        ConvKernels o = new ConvKernels();
        bounds.layerIs("new", o, 0, 0);
        bounds.layerIs("new", o, 1, 0);
        for (int place = 0; place < 18; place++) {
            due.is("new: kernel(" + place + ", 1)", o.kernel(place, 1), 0);
        }
    }

    private static void newStrideAndMarginAreOne() {
        due.sentence("Promise 1", "stride 1, margin 1");
        ConvKernels o = new ConvKernels();
        o.put(0, 3);
        o.put(63, 4);
        o.kernel(4, 1);
        due.is("new: move()", o.move(), 8);
        due.is("new: result(0, 0)", o.result(0, 0), 3);
        due.is("new: result(7, 7)", o.result(7, 7), 4);
        due.is("new: sum()", o.sum(), 7);
    }

    private static void newHasNoResult() {
        due.sentence("Promise 1", "no result");
        ConvKernels o = new ConvKernels();
        due.is("new: width()", o.width(), 0);
        due.is("new: sum()", o.sum(), 0);
        due.is("new: peak()", o.peak(), -1);
        due.is("new: floor()", o.floor(), 0);
        due.is("new: divide(1)", o.divide(1), 0);
        due.is("new: thin()", o.thin(), 0);
        for (int at = 0; at < 100; at++) {
            int x = at % 10 - 1;
            int y = at / 10 - 1;
            due.is("new: result(" + x + ", " + y + ")", o.result(x, y), 0);
        }
    }

    private static void putPlaces() {
        due.sentence("Promise 2", "BAD_ARG if the place is not 0 to 127");
        ConvKernels o = new ConvKernels();
        due.is("put(0, 1)", o.put(0, 1), 0);
        due.is("put(127, 2)", o.put(127, 2), 0);
        due.is("pixel(0)", o.pixel(0), 1);
        due.is("pixel(127)", o.pixel(127), 2);
        for (int place : Bounds.outside(0, 127)) {
            bounds.refused("put(" + place + ", 20)", x -> x.put(place, 20));
            bounds.refused("put(" + place + ", -20)", x -> x.put(place, -20));
        }
    }

    private static void putNumbers() {
        due.sentence("Promise 2", "or v not -20 to 20");
        for (int place : new int[] {0, 63, 64, 127}) {
            ConvKernels o = new ConvKernels();
            due.is("put(" + place + ", -20)", o.put(place, -20), 0);
            due.is("pixel(" + place + ")", o.pixel(place), -20);
            due.is("put(" + place + ", 20)", o.put(place, 20), -20);
            due.is("pixel(" + place + ")", o.pixel(place), 20);
            for (int v : Bounds.outside(-20, 20)) {
                bounds.refused("put(" + place + ", " + v + ")", x -> x.put(place, v));
            }
        }
        bounds.refused("put(128, 21)", x -> x.put(128, 21));
        bounds.refused("put(-1, -21)", x -> x.put(-1, -21));
    }

    private static void putAnswersTheNumberBefore() {
        due.sentence("Promise 2", "Otherwise the number before.");
        for (int place : new int[] {0, 63, 64, 127}) {
            ConvKernels o = new ConvKernels();
            due.is("put(" + place + ", 0) of a new object", o.put(place, 0), 0);
            int before = 0;
            for (int v = -20; v <= 20; v++) {
                due.is("put(" + place + ", " + v + ")", o.put(place, v), before);
                due.is("put(" + place + ", " + v + ") again", o.put(place, v), v);
                o.put(place, 21);
                before = v;
            }
            o.put(place, -21);
            due.is("put(" + place + ", 0) after a refused one", o.put(place, 0), 20);
        }
    }

    private static void fillCutsWhatIsTooSmall() {
        due.sentence("Promise 3", "a lesser one becomes -20");
        ConvKernels o = new ConvKernels();
        o.fill(0, -18, 910, 0);
        topRowIs("-18 - x", o, -18, -19, -20, -20, -20, -20, -20, -20);
        o.fill(0, -20, 1010, 0);
        bounds.layerIs("-20", o, 0, -20);
        o.fill(1, -20, 0, -3);
        bounds.layerIs("-20 - 10 x - 10 y - 3 x y", o, 1, -20);
    }

    private static void fillCutsWhatIsTooLarge() {
        due.sentence("Promise 3", "a greater one 20");
        ConvKernels o = new ConvKernels();
        o.fill(0, 18, 1110, 0);
        topRowIs("18 + x", o, 18, 19, 20, 20, 20, 20, 20, 20);
        o.fill(0, 20, 1010, 0);
        bounds.layerIs("20", o, 0, 20);
        o.fill(1, 20, 2020, 3);
        bounds.layerIs("20 + 10 x + 10 y + 3 x y", o, 1, 20);
    }

    private static void topRowIs(String when, ConvKernels o, int... want) {
        for (int x = 0; x < want.length; x++) {
            due.is(when + ": pixel(" + x + ")", o.pixel(x), want[x]);
        }
    }

    private static void fillCutsTheSumAlone() {
        due.sentence("Promise 3", "Every number of layer c becomes a + b x + d y + e x y, cut to -20 to 20");
        // The parts reach far outside of -20 to 20 and back in again.
        ConvKernels o = new ConvKernels();
        o.fill(0, 20, 2010, -3);
        due.is("20 + 10 x - 3 x y at (7, 3)", o.pixel(31), 20);
        due.is("20 + 10 x - 3 x y at (7, 4)", o.pixel(39), 6);
        due.is("20 + 10 x - 3 x y at (7, 5)", o.pixel(47), -15);
        due.is("20 + 10 x - 3 x y at (7, 6)", o.pixel(55), -20);
        o.fill(1, -20, 10, 3);
        due.is("-20 - 10 x + 3 x y at (7, 3)", o.pixel(64 + 31), -20);
        due.is("-20 - 10 x + 3 x y at (7, 4)", o.pixel(64 + 39), -6);
        due.is("-20 - 10 x + 3 x y at (7, 5)", o.pixel(64 + 47), 15);
        due.is("-20 - 10 x + 3 x y at (7, 6)", o.pixel(64 + 55), 20);
        o.fill(0, 0, 2000, 0);
        due.is("10 x - 10 y at (7, 7)", o.pixel(63), 0);
        due.is("10 x - 10 y at (7, 5)", o.pixel(47), 20);
        due.is("10 x - 10 y at (5, 6)", o.pixel(53), -10);
    }

    private static void fillLayers() {
        due.sentence("Promise 3", "BAD_ARG if c is not 0 or 1");
        ConvKernels o = new ConvKernels();
        due.is("fill(0, 4, 1010, 0)", o.fill(0, 4, 1010, 0), 0);
        bounds.layerIs("layer 0 filled", o, 0, 4);
        bounds.layerIs("layer 0 filled", o, 1, 0);
        due.is("fill(1, -5, 1010, 0)", o.fill(1, -5, 1010, 0), 0);
        bounds.layerIs("layer 1 filled", o, 0, 4);
        bounds.layerIs("layer 1 filled", o, 1, -5);
        for (int c : Bounds.outside(0, 1)) {
            bounds.refused("fill(" + c + ", 3, 1010, 1)", x -> x.fill(c, 3, 1010, 1));
        }
    }

    private static void fillFirstNumbers() {
        due.sentence("Promise 3", "a not -20 to 20");
        for (int c = 0; c < 2; c++) {
            int layer = c;
            for (int a = -20; a <= 20; a += 40) {
                ConvKernels o = new ConvKernels();
                due.is("fill(" + c + ", " + a + ", 1010, 0)", o.fill(c, a, 1010, 0), 0);
                bounds.layerIs("filled", o, c, a);
            }
            for (int a : Bounds.outside(-20, 20)) {
                bounds.refused("fill(" + c + ", " + a + ", 1010, 0)", x -> x.fill(layer, a, 1010, 0));
            }
        }
    }

    private static void fillTwists() {
        due.sentence("Promise 3", "e not -3 to 3");
        for (int c = 0; c < 2; c++) {
            int layer = c;
            for (int e = -3; e <= 3; e += 6) {
                ConvKernels o = new ConvKernels();
                due.is("fill(" + c + ", 0, 1010, " + e + ")", o.fill(c, 0, 1010, e), 0);
                due.is("filled: (1, 1)", o.pixel(64 * c + 9), e);
                due.is("filled: (6, 1)", o.pixel(64 * c + 14), 6 * e);
                due.is("filled: (7, 0)", o.pixel(64 * c + 7), 0);
                due.is("filled: (0, 7)", o.pixel(64 * c + 56), 0);
            }
            for (int e : Bounds.outside(-3, 3)) {
                bounds.refused("fill(" + c + ", 0, 1010, " + e + ")", x -> x.fill(layer, 0, 1010, e));
            }
        }
    }

    private static void fillSlopes() {
        due.sentence("Promise 3", "with b and d handed over as slopes = 100 (b + 10) + d + 10");
        for (int b = -10; b <= 10; b++) {
            for (int d = -10; d <= 10; d++) {
                ConvKernels o = new ConvKernels();
                int slopes = 100 * (b + 10) + d + 10;
                String call = "fill(1, 0, " + slopes + ", 0)";
                due.is(call, o.fill(1, 0, slopes, 0), 0);
                due.is(call + ": (0, 0)", o.pixel(64), 0);
                due.is(call + ": (1, 0)", o.pixel(65), b);
                due.is(call + ": (0, 1)", o.pixel(72), d);
                due.is(call + ": (1, 1)", o.pixel(73), b + d);
            }
        }
    }

    private static void fillSlopesOfNoNumbers() {
        due.sentence("Promise 3", "or slopes not that of a b and a d from -10 to 10");
        for (int other = -10; other <= 10; other++) {
            slopesRefused(-11, other);
            slopesRefused(11, other);
            slopesRefused(other, -11);
            slopesRefused(other, 11);
        }
        for (int slopes : new int[] {-2020, -1010, -100, -1, 21, 50, 99, 121, 1999, 2021, 2099, 2100, 2121,
            1010 + 65536, 1010 - 65536, 1010 + Bounds.LEAST, Bounds.LEAST, Bounds.MOST}) {
            bounds.refused("fill(0, 1, " + slopes + ", 1)", x -> x.fill(0, 1, slopes, 1));
            bounds.refused("fill(1, 1, " + slopes + ", 1)", x -> x.fill(1, 1, slopes, 1));
        }
        for (int slopes = -3000; slopes <= 5000; slopes++) {
            boolean known = slopes >= 0 && slopes / 100 <= 20 && slopes % 100 <= 20;
            due.is("fill(0, 0, " + slopes + ", 0)",
                    new ConvKernels().fill(0, 0, slopes, 0), known ? 0 : Bounds.BAD);
        }
    }

    private static void slopesRefused(int b, int d) {
        int slopes = 100 * (b + 10) + d + 10;
        bounds.refused("fill(0, 2, " + slopes + ", 0)", x -> x.fill(0, 2, slopes, 0));
    }

    private static void fillAnswersZero() {
        due.sentence("Promise 3", "Otherwise 0.");
        for (int c = 0; c <= 1; c++) {
            for (int a = -20; a <= 20; a += 20) {
                for (int slopes : new int[] {0, 20, 100, 1010, 2000, 2020}) {
                    for (int e = -3; e <= 3; e++) {
                        ConvKernels o = Bounds.flat(8, 1);
                        due.is("fill(" + c + ", " + a + ", " + slopes + ", " + e + ")", o.fill(c, a, slopes, e), 0);
                        due.is("width() after fill", o.width(), 8);
                        due.is("sum() after fill", o.sum(), 64);
                    }
                }
            }
        }
    }

    private static void pixelPlaces() {
        due.sentence("Promise 5", "BAD_ARG if there is none");
        ConvKernels o = new ConvKernels();
        o.fill(0, 1, 1010, 0);
        o.fill(1, 2, 1010, 0);
        o.put(0, -20);
        o.put(127, 20);
        due.is("pixel(0)", o.pixel(0), -20);
        due.is("pixel(1)", o.pixel(1), 1);
        due.is("pixel(63)", o.pixel(63), 1);
        due.is("pixel(64)", o.pixel(64), 2);
        due.is("pixel(126)", o.pixel(126), 2);
        due.is("pixel(127)", o.pixel(127), 20);
        for (int place : Bounds.outside(0, 127)) {
            bounds.refused("pixel(" + place + ")", x -> x.pixel(place));
        }
        bounds.changesNothing("pixel(0)", x -> x.pixel(0));
        bounds.changesNothing("pixel(127)", x -> x.pixel(127));
    }
}
