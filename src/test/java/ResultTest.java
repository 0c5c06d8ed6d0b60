/** The ordinary cases of promises 10 to 15: floor, thin, divide, take, sum, peak. */
public final class ResultTest {
    private static final Due due = new Due();

    public static void main(String[] args) {
        floorCutsNegatives();
        thinDropsTheOddLine();
        thinnedNumbersAreGone();
        divideRoundsTowardsZero();
        takeCutsAndCounts();
        takeOfASmallResult();
        sumOfTheWidthAlone();
        peakIsTheFirstGreatest();
        due.end();
    }

    /** An object whose result is 5 times layer 0, number for number. */
    private static ConvKernels copying(int[] numbers) {
        ConvKernels x = new ConvKernels();
        for (int place = 0; place < numbers.length; place++) {
            x.put(place, numbers[place]);
        }
        x.kernel(4, 5);
        x.move();
        return x;
    }

    private static void floorCutsNegatives() {
        ConvKernels x = copying(new int[] {-1, 0, 1, -20, 20, -2});
        due.is("floor()", x.floor(), 3);
        int[] want = {0, 0, 5, 0, 100, 0};
        for (int place = 0; place < want.length; place++) {
            due.is("floored result(" + place + ", 0)", x.result(place, 0), want[place]);
        }
        due.is("floor() again", x.floor(), 0);
        due.is("width()", x.width(), 8);
        due.is("pixel(0) is left", x.pixel(0), -1);
        ConvKernels all = new ConvKernels();
        all.fill(0, -1, 1010, 0);
        all.kernel(4, 1);
        all.move();
        due.is("floor() of all", all.floor(), 64);
        all.move();
        all.thin();
        due.is("floor() of a thinned one", all.floor(), 16);
    }

    private static void thinDropsTheOddLine() {
        ConvKernels x = new ConvKernels();
        x.fill(0, 0, 1111, 1);
        x.kernel(0, 1);
        due.is("shape(2, 0)", x.shape(2, 0), 3);
        due.is("move()", x.move(), 3);
        due.is("thin()", x.thin(), 1);
        due.is("thinned result(0, 0)", x.result(0, 0), 8);
        due.is("sum()", x.sum(), 8);
        due.is("thin() of 1", x.thin(), 0);
        due.is("width()", x.width(), 0);
        due.is("thin() of 0", x.thin(), 0);
        due.is("peak()", x.peak(), -1);
        ConvKernels six = new ConvKernels();
        six.shape(1, 0);
        six.move();
        due.is("thin() of 6", six.thin(), 3);
        due.is("thin() of 3", six.thin(), 1);
    }

    private static void thinnedNumbersAreGone() {
        ConvKernels x = new ConvKernels();
        x.fill(0, 7, 1010, 0);
        x.kernel(4, 1);
        x.move();
        int[] widths = {4, 2, 1, 0};
        for (int w : widths) {
            due.is("thin()", x.thin(), w);
            due.is("sum() at width " + w, x.sum(), 7 * w * w);
            due.is("result(" + w + ", 0)", x.result(w, 0), 0);
            due.is("result(0, " + w + ")", x.result(0, w), 0);
            due.is("floor() at width " + w, x.floor(), 0);
            due.is("divide(1) at width " + w, x.divide(1), w);
        }
    }

    private static void divideRoundsTowardsZero() {
        for (int d = 1; d <= 100; d++) {
            ConvKernels x = copying(new int[] {-20, -13, -1, 0, 1, 13, 20});
            int[] numbers = {-100, -65, -5, 0, 5, 65, 100};
            due.is("divide(" + d + ")", x.divide(d), 8);
            for (int place = 0; place < numbers.length; place++) {
                int size = Math.abs(numbers[place]) / d;
                int want = numbers[place] < 0 ? -size : size;
                due.is(numbers[place] + " divided by " + d, x.result(place, 0), want);
            }
        }
        ConvKernels small = new ConvKernels();
        small.fill(0, -20, 1010, 0);
        small.kernel(4, 1);
        small.shape(2, 0);
        small.move();
        due.is("divide(3) of width 3", small.divide(3), 3);
        due.is("sum() then", small.sum(), -54);
    }

    private static void takeCutsAndCounts() {
        ConvKernels x = copying(new int[] {4, 5, -4, -5, 1, 0, -1});
        int[] want = {20, 20, -20, -20, 5, 0, -5};
        due.is("take(1)", x.take(1), 6);
        for (int place = 0; place < want.length; place++) {
            due.is("taken into layer 1: pixel(" + (64 + place) + ")", x.pixel(64 + place), want[place]);
        }
        due.is("layer 0 is left", x.pixel(1), 5);
        due.is("the result is left", x.result(1, 0), 25);
        due.is("take(1) again", x.take(1), 0);
        x.put(64, 19);
        x.put(127, 1);
        due.is("take(1) after two puts", x.take(1), 2);
        due.is("take(0)", x.take(0), 6);
        due.is("taken into layer 0: pixel(3)", x.pixel(3), -20);
        due.is("width() after take", x.width(), 8);
    }

    private static void takeOfASmallResult() {
        ConvKernels o = new ConvKernels();
        o.fill(0, 3, 1010, 0);
        o.fill(1, 3, 1010, 0);
        o.kernel(4, 1);
        o.move();
        o.shape(2, 0);
        due.is("move()", o.move(), 3);
        due.is("take(1)", o.take(1), 55);
        for (int y = 0; y < 8; y++) {
            for (int x = 0; x < 8; x++) {
                int place = 64 + 8 * y + x;
                due.is("small one taken: pixel(" + place + ")", o.pixel(place), x < 3 && y < 3 ? 3 : 0);
            }
        }
        due.is("layer 0 is left", o.pixel(63), 3);
    }

    private static void sumOfTheWidthAlone() {
        ConvKernels x = new ConvKernels();
        x.fill(0, 1, 1110, 0);
        x.kernel(4, 1);
        x.move();
        due.is("sum() of 8", x.sum(), 8 * 36);
        x.shape(1, 0);
        x.move();
        due.is("sum() of 6", x.sum(), 6 * 27);
        x.shape(2, 0);
        x.move();
        due.is("sum() of 3", x.sum(), 3 * 12);
        due.is("sum() again", x.sum(), 3 * 12);
    }

    private static void peakIsTheFirstGreatest() {
        for (int place = 0; place < 64; place++) {
            ConvKernels x = new ConvKernels();
            x.fill(0, -20, 1010, 0);
            x.put(place, -19);
            x.put(63, -19);
            x.kernel(4, 1);
            x.move();
            due.is("peak() at " + place, x.peak(), place);
        }
        ConvKernels ties = copying(new int[] {0, 0, 0, 0, 0, 2, 0, 0, 0, 2});
        due.is("peak() of (5, 0) and (1, 1)", ties.peak(), 5);
        ties.put(4, 2);
        ties.move();
        due.is("peak() of (4, 0) and (5, 0)", ties.peak(), 4);
        ConvKernels flat = copying(new int[] {});
        due.is("peak() of zeros", flat.peak(), 0);
        // The greatest of the wide result stands where the narrow one has no numbers.
        ConvKernels narrow = new ConvKernels();
        narrow.fill(0, 0, 1111, 0);
        narrow.kernel(4, 1);
        narrow.move();
        due.is("peak() of 8", narrow.peak(), 63);
        narrow.thin();
        due.is("peak() of 4", narrow.peak(), 27);
        narrow.shape(2, 0);
        narrow.move();
        due.is("peak() of 3", narrow.peak(), 18);
    }
}
