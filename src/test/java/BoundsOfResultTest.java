import java.util.Arrays;

/** The boundary cases of promises 10 to 15 (floor, thin, divide, take, sum, peak), a method for each sentence. */
public final class BoundsOfResultTest {
    private static final int[] WIDTHS = {8, 6, 4, 3, 2, 1, 0};
    private static final Due due = new Due();
    private static final Bounds bounds = new Bounds(due);

    public static void main(String[] args) {
        due.run(
                BoundsOfResultTest::floorOfTheLeastNegative,
                BoundsOfResultTest::floorCounts,
                BoundsOfResultTest::thinHalvesTheWidth,
                BoundsOfResultTest::thinLeavesOutTheOddLine,
                BoundsOfResultTest::thinAnswersTheNewWidth,
                BoundsOfResultTest::divideRounds,
                BoundsOfResultTest::divideDivisors,
                BoundsOfResultTest::divideAnswersTheWidth,
                BoundsOfResultTest::takeCuts,
                BoundsOfResultTest::takeWhereThereIsNone,
                BoundsOfResultTest::takeLayers,
                BoundsOfResultTest::takeCounts,
                BoundsOfResultTest::sumOfAll,
                BoundsOfResultTest::peakOfSeveral,
                BoundsOfResultTest::peakOfNone);
    }

    private static void floorOfTheLeastNegative() {
        due.sentence("Promise 10", "Every number of the result that is negative becomes 0.");
        ConvKernels o = Bounds.withResult(-1, 0, 1, -40, 40, -2, 2, -1, -1);
        o.floor();
        bounds.rowIs("floored", o, 0, 0, 1, 0, 40, 0, 2, 0);
        due.is("floored: result(0, 1)", o.result(0, 1), 0);
        due.is("pixel(0) is left", o.pixel(0), -1);
        for (int width : WIDTHS) {
            ConvKernels all = Bounds.flat(width, -1);
            all.floor();
            bounds.resultIs("all of W " + width + " floored", all, new int[width * width]);
        }
    }

    private static void floorCounts() {
        due.sentence("Promise 10", "Answers how many were.");
        due.is("floor() of one", Bounds.withResult(0, -1, 1).floor(), 1);
        due.is("floor() of zeros", Bounds.withResult().floor(), 0);
        for (int width : WIDTHS) {
            due.is("floor() of 1, W " + width, Bounds.flat(width, 1).floor(), 0);
            ConvKernels all = Bounds.flat(width, -1);
            due.is("floor() of -1, W " + width, all.floor(), width * width);
            due.is("floor() again, W " + width, all.floor(), 0);
        }
    }

    private static void thinHalvesTheWidth() {
        due.sentence("Promise 11", "half the width W / 2 (rounded down)");
        for (int width : WIDTHS) {
            ConvKernels o = Bounds.flat(width, 6);
            due.is("thin() of W " + width, o.thin(), width / 2);
            due.is("width() then", o.width(), width / 2);
            due.is("sum() then", o.sum(), 6 * (width / 2) * (width / 2));
            due.is("result(W, 0) then", o.result(width / 2, 0), 0);
            due.is("result(0, W) then", o.result(0, width / 2), 0);
        }
        due.is("thin() of a new object", new ConvKernels().thin(), 0);
        ConvKernels o = Bounds.flat(8, 6);
        for (int width : new int[] {4, 2, 1, 0, 0}) {
            due.is("thin() again and again", o.thin(), width);
        }
    }

    private static void thinLeavesOutTheOddLine() {
        due.sentence("Promise 11", "r'(x, y) the greatest of r(2 x, 2 y), r(2 x + 1, 2 y), r(2 x, 2 y + 1),"
                + " r(2 x + 1, 2 y + 1)");
        ConvKernels o = new ConvKernels();
        o.fill(0, -20, 1111, 1);
        o.kernel(0, 1);
        o.shape(2, 0);
        o.move();
        bounds.resultIs("W 3", o, -20, -18, -16, -18, -12, -6, -16, -6, 4);
        due.is("thin() of W 3", o.thin(), 1);
        // The 4 of the line that is left out isn't looked at.
        bounds.resultIs("W 3 thinned", o, -12);
        for (int corner = 0; corner < 4; corner++) {
            for (int square = 0; square < 16; square++) {
                greatestInCorner(2 * (square % 4) + corner % 2, 2 * (square / 4) + corner / 2);
            }
        }
    }

    private static void greatestInCorner(int x, int y) {
        ConvKernels o = Bounds.flat(8, -20);
        o.put(8 * y + x, -19);
        o.move();
        o.thin();
        int[] want = new int[16];
        for (int at = 0; at < 16; at++) {
            want[at] = at == 4 * (y / 2) + x / 2 ? -19 : -20;
        }
        bounds.resultIs("greatest at (" + x + ", " + y + ")", o, want);
    }

    private static void thinAnswersTheNewWidth() {
        due.sentence("Promise 11", "Answers the new W.");
        for (int width : WIDTHS) {
            ConvKernels o = Bounds.flat(width, -20);
            due.is("thin() of -20, W " + width, o.thin(), width / 2);
            due.is("sum() then", o.sum(), -20 * (width / 2) * (width / 2));
        }
    }

    private static void divideRounds() {
        due.sentence("Promise 12", "Every number of the result becomes itself divided by d, rounded towards 0.");
        dividedBy(1, new int[] {-40, -1, 0, 1, 40}, -40, -1, 0, 1, 40);
        dividedBy(2, new int[] {-4, -3, -2, -1, 0, 1, 2, 3}, -2, -1, -1, 0, 0, 0, 1, 1);
        dividedBy(40, new int[] {-40, -39, 39, 40}, -1, 0, 0, 1);
        dividedBy(41, new int[] {-40, 40}, 0, 0);
        ConvKernels o = new ConvKernels();
        o.kernel(4, 9);
        o.kernel(13, 9);
        int[] numbers = {99, -99, 108, -108, 198, -198, 207, -207};
        for (int x = 0; x < 8; x++) {
            int ninth = numbers[x] / 9;
            o.put(x, ninth / 2);
            o.put(64 + x, ninth - ninth / 2);
        }
        o.move();
        bounds.rowIs("before dividing", o, numbers);
        o.divide(100);
        bounds.rowIs("divided by 100", o, 0, 0, 1, -1, 1, -1, 2, -2);
        for (int width : WIDTHS) {
            ConvKernels flat = Bounds.flat(width, -19);
            flat.divide(10);
            int[] want = new int[width * width];
            Arrays.fill(want, -1);
            bounds.resultIs("-19 divided by 10, W " + width, flat, want);
        }
    }

    private static void dividedBy(int d, int[] numbers, int... want) {
        ConvKernels o = Bounds.withResult(numbers);
        o.divide(d);
        bounds.rowIs("divided by " + d, o, want);
        due.is("pixel(0) is left", o.pixel(0), Math.max(-20, numbers[0]));
    }

    private static void divideDivisors() {
        due.sentence("Promise 12", "BAD_ARG if d is not 1 to 100.");
        ConvKernels o = Bounds.flat(8, 20);
        due.is("divide(1)", o.divide(1), 8);
        due.is("result(7, 7) divided by 1", o.result(7, 7), 20);
        due.is("divide(100)", o.divide(100), 8);
        due.is("result(7, 7) divided by 100", o.result(7, 7), 0);
        for (int d : Bounds.outside(1, 100)) {
            bounds.refused("divide(" + d + ")", x -> x.divide(d));
        }
        bounds.refused("divide(-1)", x -> x.divide(-1));
    }

    private static void divideAnswersTheWidth() {
        due.sentence("Promise 12", "Otherwise W.");
        for (int width : WIDTHS) {
            for (int d : new int[] {1, 2, 99, 100}) {
                ConvKernels o = Bounds.flat(width, 20);
                due.is("divide(" + d + ") of W " + width, o.divide(d), width);
                due.is("width() then", o.width(), width);
            }
        }
    }

    private static void takeCuts() {
        due.sentence("Promise 13", "the number at (x, y) that of r, cut to -20 to 20");
        for (int c = 0; c <= 1; c++) {
            ConvKernels o = Bounds.withResult(-40, -21, -20, -19, 19, 20, 21, 40);
            o.take(c);
            int[] want = {-20, -20, -20, -19, 19, 20, 20, 20};
            for (int x = 0; x < 8; x++) {
                due.is("taken into " + c + ": pixel(" + (64 * c + x) + ")", o.pixel(64 * c + x), want[x]);
            }
            bounds.rowIs("the result is left", o, -40, -21, -20, -19, 19, 20, 21, 40);
        }
        ConvKernels corners = new ConvKernels();
        corners.put(0, 1);
        corners.put(7, 2);
        corners.put(56, 3);
        corners.put(63, 4);
        corners.kernel(4, 1);
        corners.move();
        corners.take(1);
        due.is("taken: (0, 0)", corners.pixel(64), 1);
        due.is("taken: (7, 0)", corners.pixel(71), 2);
        due.is("taken: (0, 7)", corners.pixel(120), 3);
        due.is("taken: (7, 7)", corners.pixel(127), 4);
    }

    private static void takeWhereThereIsNone() {
        due.sentence("Promise 13", "and 0 where there is none");
        for (int width : WIDTHS) {
            for (int c = 0; c <= 1; c++) {
                ConvKernels o = Bounds.flat(width, 5);
                o.fill(c, 9, 1010, 0);
                due.is("take(" + c + ") of W " + width, o.take(c), 64);
                for (int at = 0; at < 64; at++) {
                    boolean there = at % 8 < width && at / 8 < width;
                    due.is("W " + width + ": pixel(" + (64 * c + at) + ")", o.pixel(64 * c + at), there ? 5 : 0);
                }
            }
        }
        ConvKernels none = new ConvKernels();
        none.fill(0, 20, 1010, 0);
        due.is("take(0) of no result", none.take(0), 64);
        bounds.layerIs("no result taken", none, 0, 0);
    }

    private static void takeLayers() {
        due.sentence("Promise 13", "BAD_ARG if c is not 0 or 1.");
        for (int c = 0; c <= 1; c++) {
            ConvKernels o = Bounds.flat(8, 3);
            o.fill(0, 1, 1010, 0);
            o.fill(1, 1, 1010, 0);
            due.is("take(" + c + ")", o.take(c), 64);
            bounds.layerIs("take(" + c + ")", o, c, 3);
            bounds.layerIs("take(" + c + ")", o, 1 - c, 1);
        }
        for (int c : Bounds.outside(0, 1)) {
            bounds.refused("take(" + c + ")", x -> x.take(c));
        }
    }

    private static void takeCounts() {
        due.sentence("Promise 13", "Otherwise how many numbers of the layer this changed.");
        ConvKernels o = Bounds.flat(8, 5);
        due.is("take(0) of the same", o.take(0), 0);
        due.is("take(1) of all others", o.take(1), 64);
        due.is("take(1) again", o.take(1), 0);
        o.put(64, 4);
        due.is("take(1) after one put", o.take(1), 1);
        o.put(127, 6);
        o.put(64, -5);
        due.is("take(1) after two puts", o.take(1), 2);
        ConvKernels cut = Bounds.withResult(21, -21, 20, -20);
        // 20 and -20 stand there already: what is cut to them changes nothing.
        due.is("take(0) of what is cut to the same", cut.take(0), 0);
        due.is("take(1)", cut.take(1), 4);
        due.is("take(0) of a new object", new ConvKernels().take(0), 0);
        due.is("take(1) of a new object", new ConvKernels().take(1), 0);
    }

    private static void sumOfAll() {
        due.sentence("Promise 14", "The sum of all numbers of the result.");
        due.is("sum() of a new object", new ConvKernels().sum(), 0);
        for (int width : WIDTHS) {
            due.is("sum() of W " + width, Bounds.flat(width, -7).sum(), -7 * width * width);
        }
        for (int sign = -1; sign <= 1; sign += 2) {
            ConvKernels o = new ConvKernels();
            o.fill(0, 20, 1010, 0);
            o.fill(1, -20, 1010, 0);
            for (int place = 0; place < 18; place++) {
                o.kernel(place, place < 9 ? 9 * sign : -9 * sign);
            }
            o.move();
            // 36 numbers inside, 24 at an edge, 4 at a corner.
            due.is("the greatest sum()", o.sum(), sign * (36 * 3240 + 24 * 2160 + 4 * 1440));
        }
        due.is("sum() of what cancels", Bounds.withResult(40, -40, 1, -1).sum(), 0);
        bounds.changesNothing("sum()", x -> x.sum());
    }

    private static void peakOfSeveral() {
        due.sentence("Promise 15", "8 y + x for the greatest number of the result, of several that with the least y,"
                + " then x");
        for (int width : WIDTHS) {
            if (width > 0) {
                due.is("peak() of all the same, W " + width, Bounds.flat(width, -20).peak(), 0);
            }
        }
        for (int first = 0; first < 64; first++) {
            int nextRow = Math.min(8 * (first / 8 + 1), 63);
            for (int second : new int[] {first, nextRow, 63}) {
                ConvKernels o = Bounds.flat(8, -20);
                o.put(first, -19);
                o.put(second, -19);
                o.move();
                due.is("peak() of " + first + " and " + second, o.peak(), first);
            }
        }
        ConvKernels narrow = new ConvKernels();
        narrow.fill(0, 0, 1111, 0);
        narrow.kernel(0, 1);
        int[] lasts = {63, 45, 27, 18};
        for (int n = 0; n < 4; n++) {
            narrow.shape(Bounds.SHAPES[n][0], Bounds.SHAPES[n][1]);
            narrow.move();
            due.is("peak() in the last corner of W " + Bounds.SHAPES[n][2], narrow.peak(), lasts[n]);
        }
        bounds.changesNothing("peak()", x -> x.peak());
    }

    private static void peakOfNone() {
        due.sentence("Promise 15", "-1 if W is 0");
        due.is("peak() of a new object", new ConvKernels().peak(), -1);
        due.is("peak() of W 0", Bounds.flat(0, 5).peak(), -1);
        due.is("peak() of W 1", Bounds.flat(1, -5).peak(), 0);
        ConvKernels o = Bounds.withResult();
        due.is("peak() of zeros", o.peak(), 0);
    }
}
