import java.util.Arrays;
import java.util.function.ToIntFunction;

/** What the tests of the boundary cases share: states to call in, wrong values, and a look at everything. */
final class Bounds {
    static final int BAD = -1000000;
    static final int LEAST = Integer.MIN_VALUE;
    static final int MOST = Integer.MAX_VALUE;
    /** All strides and margins with the W of moving. */
    static final int[][] SHAPES = {{1, 1, 8}, {1, 0, 6}, {2, 1, 4}, {2, 0, 3}};
    static final int STATES = 6;

    private final Due due;

    Bounds(Due due) {
        this.due = due;
    }

    /** The one below and the one above, far ones, and ones that look right in their lowest bits alone. */
    static int[] outside(int least, int greatest) {
        return new int[] {least - 1, greatest + 1, LEAST, LEAST + 1, MOST - 1, MOST,
            least + 256, greatest - 256, least + 65536, greatest - 65536, greatest + LEAST};
    }

    /** State 0 is a new object, 1 to 4 have a result of each width, 5 one that was thinned to nothing. */
    static ConvKernels state(int n) {
        ConvKernels o = new ConvKernels();
        if (n == 0) {
            return o;
        }
        int[] shape = n == 5 ? SHAPES[2] : SHAPES[n - 1];
        o.way(n % 4);
        o.fill(0, -19, 1311, 1);
        o.fill(1, 17, 908, -1);
        for (int place = 0; place < 18; place++) {
            o.kernel(place, 8 - place);
        }
        o.shape(shape[0], shape[1]);
        o.move();
        for (int times = 0; n == 5 && times < 3; times++) {
            o.thin();
        }
        return o;
    }

    /** Number for number, a result of width 8; each number -40 to 40, those not named are 0. */
    static ConvKernels withResult(int... numbers) {
        ConvKernels o = new ConvKernels();
        for (int place = 0; place < numbers.length; place++) {
            int part = Math.max(-20, Math.min(20, numbers[place]));
            o.put(place, part);
            o.put(64 + place, numbers[place] - part);
        }
        o.kernel(4, 1);
        o.kernel(13, 1);
        o.move();
        return o;
    }

    /** A result of this width (8, 6, 4, 3, 2, 1 or 0) whose numbers are all this one, -20 to 20. */
    static ConvKernels flat(int width, int number) {
        ConvKernels o = new ConvKernels();
        o.fill(0, number, 1010, 0);
        // The kernel's middle with a margin, else its corner: never outside of the picture.
        o.kernel(width == 6 || width == 3 ? 0 : 4, 1);
        int[] shape = width == 6 ? SHAPES[1] : width == 3 ? SHAPES[3] : SHAPES[0];
        o.shape(shape[0], shape[1]);
        o.move();
        for (int times = 0; times < 4 && o.width() > width; times++) {
            o.thin();
        }
        return o;
    }

    /** All that can be seen of an object; at its end the kernel is moved, for stride and margin to be seen. */
    static int[] whole(ConvKernels o) {
        int[] seen = new int[3 + 100 + 128 + 18 + 1 + 64];
        int count = 0;
        seen[count++] = o.width();
        seen[count++] = o.sum();
        seen[count++] = o.peak();
        for (int at = 0; at < 100; at++) {
            seen[count++] = o.result(at % 10 - 1, at / 10 - 1);
        }
        for (int place = 0; place < 128; place++) {
            seen[count++] = o.pixel(place);
        }
        for (int place = 0; place < 18; place++) {
            seen[count] = o.kernel(place, 0);
            o.kernel(place, seen[count++]);
        }
        seen[count++] = o.move();
        for (int at = 0; at < 64; at++) {
            seen[count++] = o.result(at % 8, at / 8);
        }
        return seen;
    }

    /** In every state the call answers BAD_ARG, and nothing is other than without it. */
    void refused(String call, ToIntFunction<ConvKernels> made) {
        for (int n = 0; n < STATES; n++) {
            ConvKernels o = state(n);
            due.is("state " + n + ": " + call, made.applyAsInt(o), BAD);
            due.holds("state " + n + ": " + call + " changed nothing", Arrays.equals(whole(o), whole(state(n))));
        }
    }

    /** In every state the call answers the same when made again, and nothing is other than without it. */
    void changesNothing(String call, ToIntFunction<ConvKernels> made) {
        for (int n = 0; n < STATES; n++) {
            ConvKernels o = state(n);
            due.is("state " + n + ": " + call + ", a second time", made.applyAsInt(o), made.applyAsInt(o));
            due.holds("state " + n + ": " + call + " changed nothing", Arrays.equals(whole(o), whole(state(n))));
        }
    }

    /** The whole result, row by row from (0, 0). */
    void resultIs(String when, ConvKernels o, int... want) {
        due.is(when + ": width() squared", o.width() * o.width(), want.length);
        for (int at = 0; at < want.length && o.width() > 0; at++) {
            int x = at % o.width();
            int y = at / o.width();
            due.is(when + ": result(" + x + ", " + y + ")", o.result(x, y), want[at]);
        }
    }

    /** The first numbers of the result's top row. */
    void rowIs(String when, ConvKernels o, int... want) {
        for (int x = 0; x < want.length; x++) {
            due.is(when + ": result(" + x + ", 0)", o.result(x, 0), want[x]);
        }
    }

    /** Every number of one layer. */
    void layerIs(String when, ConvKernels o, int layer, int want) {
        for (int place = 64 * layer; place < 64 * layer + 64; place++) {
            due.is(when + ": pixel(" + place + ")", o.pixel(place), want);
        }
    }
}
