/** The ordinary cases of promises 1, 2, 3 and 5: a new object, put, fill, pixel. */
public final class PictureTest {
    private static final Due due = new Due();

    public static void main(String[] args) {
        objectsShareNothing();
        putGivesTheNumberBefore();
        fillFollowsItsFormula();
        due.end();
    }

    private static void objectsShareNothing() {
        ConvKernels one = new ConvKernels();
        ConvKernels other = new ConvKernels();
        one.put(5, 7);
        one.kernel(4, 2);
        one.shape(2, 0);
        due.is("one: move()", one.move(), 3);
        due.is("other: pixel(5)", other.pixel(5), 0);
        due.is("other: width()", other.width(), 0);
        due.is("other: move()", other.move(), 8);
        due.is("other: kernel(4, 1)", other.kernel(4, 1), 0);
        due.is("one: kernel(4, 1)", one.kernel(4, 1), 2);
    }

    private static void putGivesTheNumberBefore() {
        ConvKernels x = new ConvKernels();
        for (int place = 0; place < 128; place++) {
            due.is("put(" + place + ", first)", x.put(place, place % 41 - 20), 0);
        }
        for (int place = 0; place < 128; place++) {
            due.is("pixel(" + place + ")", x.pixel(place), place % 41 - 20);
        }
        for (int place = 0; place < 128; place++) {
            due.is("put(" + place + ", second)", x.put(place, 20 - place % 41), place % 41 - 20);
        }
        due.is("put(0, -20)", x.put(0, -20), 20);
        due.is("put(0, 20)", x.put(0, 20), -20);
    }

    private static void fillFollowsItsFormula() {
        for (int a : new int[] {-20, -7, 0, 1, 20}) {
            for (int b = -10; b <= 10; b++) {
                for (int d = -10; d <= 10; d++) {
                    for (int e = -3; e <= 3; e++) {
                        oneFill((b + d + e) & 1, a, b, d, e);
                    }
                }
            }
        }
    }

    private static void oneFill(int c, int a, int b, int d, int e) {
        ConvKernels o = new ConvKernels();
        int slopes = 100 * (b + 10) + d + 10;
        String call = "fill(" + c + ", " + a + ", " + slopes + ", " + e + ")";
        due.is(call, o.fill(c, a, slopes, e), 0);
        for (int y = 0; y < 8; y++) {
            for (int x = 0; x < 8; x++) {
                int want = Math.max(-20, Math.min(20, a + b * x + d * y + e * x * y));
                due.is(call + ": at (" + x + ", " + y + ")", o.pixel(64 * c + 8 * y + x), want);
            }
        }
    }
}
