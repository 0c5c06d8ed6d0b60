import java.util.Arrays;
import java.util.function.ToIntFunction;

/** The boundary cases of "What it is" and "Terms", a method for each sentence. */
public final class BoundsOfTermsTest {
    private static final Due due = new Due();
    private static final Bounds bounds = new Bounds(due);

    public static void main(String[] args) {
        due.run(
                BoundsOfTermsTest::thePictureHasItsCorners,
                BoundsOfTermsTest::outsideCountsAsZero,
                BoundsOfTermsTest::theKernelHasItsCorners,
                BoundsOfTermsTest::strideAndMargin,
                BoundsOfTermsTest::theWidthIsZeroAtFirst,
                BoundsOfTermsTest::theWidthIsRoundedDown,
                BoundsOfTermsTest::movingReachesTheGreatestSums,
                BoundsOfTermsTest::wayIsNotSeen,
                BoundsOfTermsTest::noCallThrows,
                BoundsOfTermsTest::refusedCallsOneAfterTheOther,
                BoundsOfTermsTest::theConstant,
                BoundsOfTermsTest::theLastOfAllCalls);
    }

    private static void thePictureHasItsCorners() {
        due.sentence("Terms", "Two layers 0 and 1 of 8 by 8 numbers, at (x, y), x and y from 0 to 7, each -20 to 20");
        int[] corners = {0, 7, 56, 63, 64, 71, 120, 127};
        for (int extreme : new int[] {-20, 20}) {
            for (int corner : corners) {
                ConvKernels o = new ConvKernels();
                o.put(corner, extreme);
                for (int place = 0; place < 128; place++) {
                    due.is("put(" + corner + ", " + extreme + "): pixel(" + place + ")",
                            o.pixel(place), place == corner ? extreme : 0);
                }
            }
        }
    }

    private static void outsideCountsAsZero() {
        due.sentence("Terms", "outside they count as 0");
        for (int[] shape : Bounds.SHAPES) {
            for (int way = 0; way < 4; way++) {
                for (int number = 0; number < 18; number++) {
                    fullPictureUnder(shape, way, number);
                }
            }
        }
    }

    /** No number of the picture is 0 here, so one that is wrapped around to would be seen. */
    private static void fullPictureUnder(int[] shape, int way, int number) {
        ConvKernels o = new ConvKernels();
        o.fill(0, 20, 1010, 0);
        o.fill(1, 20, 1010, 0);
        o.way(way);
        o.kernel(number, 1);
        o.shape(shape[0], shape[1]);
        int width = o.move();
        for (int y = 0; y < width; y++) {
            for (int x = 0; x < width; x++) {
                int pictureX = shape[0] * x + number % 3 - shape[1];
                int pictureY = shape[0] * y + number % 9 / 3 - shape[1];
                boolean outside = pictureX < 0 || pictureX > 7 || pictureY < 0 || pictureY > 7;
                due.is("way " + way + ", shape " + shape[0] + " " + shape[1] + ", kernel " + number
                        + ": result(" + x + ", " + y + ")", o.result(x, y), outside ? 0 : 20);
            }
        }
    }

    private static void theKernelHasItsCorners() {
        due.sentence("Terms", "for each layer c nine numbers k(c, i, j), i and j from 0 to 2, each -9 to 9");
        for (int extreme : new int[] {-9, 9}) {
            for (int corner : new int[] {0, 2, 6, 8, 9, 11, 15, 17}) {
                ConvKernels o = new ConvKernels();
                o.kernel(corner, extreme);
                for (int place = 0; place < 18; place++) {
                    due.is("kernel(" + corner + ", " + extreme + "), then kernel(" + place + ", 0)",
                            o.kernel(place, 0), place == corner ? extreme : 0);
                }
            }
        }
    }

    private static void strideAndMargin() {
        due.sentence("Terms", "STRIDE s is 1 or 2, MARGIN m is 0 or 1");
        for (int[] shape : Bounds.SHAPES) {
            ConvKernels o = new ConvKernels();
            // The kernel's upper left number lies on (2 - m, 4 - m) under either stride, on (3 - m, 5 - m) under 1.
            o.put(8 * (4 - shape[1]) + 2 - shape[1], 11);
            o.put(8 * (5 - shape[1]) + 3 - shape[1], 7);
            o.kernel(0, 1);
            o.shape(shape[0], shape[1]);
            o.move();
            String when = "shape " + shape[0] + " " + shape[1];
            due.is(when + ": result(2, 4)", o.result(2, 4), shape[0] == 1 ? 11 : 0);
            due.is(when + ": result(3, 5)", o.result(3, 5), shape[0] == 1 ? 7 : 0);
            due.is(when + ": result(1, 2)", o.result(1, 2), shape[0] == 1 ? 0 : 11);
        }
    }

    private static void theWidthIsZeroAtFirst() {
        due.sentence("Terms", "W from 0 to 8, x and y from 0 to W - 1 (at first W is 0)");
        ConvKernels o = new ConvKernels();
        due.is("width() at first", o.width(), 0);
        due.is("result(0, 0) at first", o.result(0, 0), 0);
        for (int width : new int[] {8, 6, 4, 3, 2, 1}) {
            ConvKernels flat = Bounds.flat(width, 5);
            due.is("width()", flat.width(), width);
            due.is("result(0, 0)", flat.result(0, 0), 5);
            due.is("result(W - 1, W - 1)", flat.result(width - 1, width - 1), 5);
            due.is("sum()", flat.sum(), 5 * width * width);
        }
    }

    private static void theWidthIsRoundedDown() {
        due.sentence("Terms", "W = (8 + 2 m - 3) / s rounded down, plus 1");
        for (int[] shape : Bounds.SHAPES) {
            ConvKernels o = new ConvKernels();
            due.is("shape(" + shape[0] + ", " + shape[1] + ")", o.shape(shape[0], shape[1]), shape[2]);
            due.is("move() of shape " + shape[0] + " " + shape[1], o.move(), shape[2]);
        }
    }

    private static void movingReachesTheGreatestSums() {
        due.sentence("Terms", "r(x, y) the sum over both layers c and all i, j of k(c, i, j)"
                + " times the picture's number of layer c at (s x + i - m, s y + j - m)");
        for (int sign = -1; sign <= 1; sign += 2) {
            for (int way = 0; way < 4; way++) {
                ConvKernels o = new ConvKernels();
                o.way(way);
                o.fill(0, 20, 1010, 0);
                o.fill(1, -20, 1010, 0);
                for (int place = 0; place < 18; place++) {
                    o.kernel(place, place < 9 ? 9 * sign : -9 * sign);
                }
                o.move();
                String when = "way " + way + ", sign " + sign;
                // 18 numbers lie under the kernel, 12 at an edge and 8 at a corner, each giving 9 times 20.
                due.is(when + ": inside", o.result(1, 6), sign * 18 * 180);
                due.is(when + ": left edge", o.result(0, 3), sign * 12 * 180);
                due.is(when + ": right edge", o.result(7, 3), sign * 12 * 180);
                due.is(when + ": upper edge", o.result(3, 0), sign * 12 * 180);
                due.is(when + ": lower edge", o.result(3, 7), sign * 12 * 180);
                due.is(when + ": upper left", o.result(0, 0), sign * 8 * 180);
                due.is(when + ": upper right", o.result(7, 0), sign * 8 * 180);
                due.is(when + ": lower left", o.result(0, 7), sign * 8 * 180);
                due.is(when + ": lower right", o.result(7, 7), sign * 8 * 180);
            }
        }
    }

    private static void wayIsNotSeen() {
        due.sentence("Terms", "What the call way does can't be seen by any other call.");
        for (int n = 0; n < Bounds.STATES; n++) {
            for (int way = -1; way <= 4; way++) {
                ConvKernels o = Bounds.state(n);
                o.way(way);
                due.holds("state " + n + ": way(" + way + ") is not seen",
                        Arrays.equals(Bounds.whole(o), Bounds.whole(Bounds.state(n))));
            }
        }
    }

    private static void noCallThrows() {
        due.sentence("Terms", "No call ever throws.");
        int[] some = {Bounds.LEAST, Bounds.LEAST + 1, -65536, -129, -21, -1, 0, 1, 2, 7, 8, 20, 63, 64, 100, 127, 128,
            1010, 65536, 1 << 28, 1 << 29, 1 << 30, Bounds.MOST - 1, Bounds.MOST};
        for (int n = 0; n < Bounds.STATES; n++) {
            for (int a : some) {
                doesNotThrow(n, "pixel, divide, take, way of " + a,
                        o -> o.pixel(a) + o.divide(a) + o.take(a) + o.way(a) + o.move());
                for (int b : some) {
                    doesNotThrow(n, "put, kernel, shape, result of " + a + " and " + b,
                            o -> o.put(a, b) + o.kernel(a, b) + o.shape(a, b) + o.result(a, b) + o.move());
                    doesNotThrow(n, "fill of " + a + " and " + b, o -> o.fill(a, b, b, a) + o.fill(b, a, a, b)
                            + o.fill(0, 0, a, b) + o.fill(1, a, b, 0) + o.move());
                }
            }
            doesNotThrow(n, "what takes nothing", o -> o.width() + o.floor() + o.thin() + o.sum() + o.peak() + o.move());
        }
    }

    private static void doesNotThrow(int n, String calls, ToIntFunction<ConvKernels> made) {
        boolean thrown = false;
        try {
            made.applyAsInt(Bounds.state(n));
        } catch (RuntimeException e) {
            thrown = true;
        }
        due.holds("state " + n + ": no throw by " + calls, !thrown);
    }

    private static void refusedCallsOneAfterTheOther() {
        due.sentence("Terms", "A refused call answers the code named and changes nothing.");
        bounds.refused("every refused call", o -> {
            int[] answers = {o.put(128, 1), o.put(0, 21), o.fill(2, 1, 1010, 1), o.fill(0, 21, 1010, 1),
                o.fill(0, 1, 2121, 1), o.fill(0, 1, 1010, 4), o.kernel(18, 1), o.kernel(0, 10), o.pixel(128),
                o.shape(3, 0), o.shape(1, 2), o.divide(101), o.take(2), o.way(4)};
            for (int answer : answers) {
                if (answer != Bounds.BAD) {
                    return answer;
                }
            }
            return Bounds.BAD;
        });
    }

    private static void theConstant() {
        due.sentence("Terms", "`BAD_ARG = -1000000`: An argument is out of its range.");
        due.is("BAD_ARG", ConvKernels.BAD_ARG, -1000000);
    }

    private static void theLastOfAllCalls() {
        due.sentence("What it is", "An object is used for at most 512 calls after it has been made");
        ConvKernels o = new ConvKernels();
        o.kernel(4, 9);
        for (int call = 2; call <= 510; call++) {
            due.is("call " + call + ": put(127, ..)", o.put(127, call % 2), call == 2 ? 0 : (call - 1) % 2);
        }
        due.is("call 511: put(63, 20)", o.put(63, 20), 0);
        due.is("call 512: move()", o.move(), 8);
        ConvKernels moved = Bounds.flat(8, 3);
        int made = 5;
        while (made < 511) {
            due.is("call " + ++made + ": move()", moved.move(), 8);
        }
        due.is("call 512: sum()", moved.sum(), 192);
    }
}
