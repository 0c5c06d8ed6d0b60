/** Promises 1, 2, 3 and 5: a new object, put, fill, pixel. */
public final class PictureTest {
    private static final int BAD = -1000000;
    private static final int[] BAD_PLACES = {-1, 128, -64, 255, Integer.MIN_VALUE, Integer.MAX_VALUE};
    private static final Due due = new Due();

    public static void main(String[] args) {
        newObject();
        putGivesTheNumberBefore();
        putRefuses();
        fillFollowsItsFormula();
        fillTouchesOneLayer();
        fillRefuses();
        fillKnowsItsSlopes();
        pixelRefuses();
        due.end();
    }

    private static void allPixels(String when, ConvKernels x, int layer, int want) {
        for (int place = 64 * layer; place < 64 * layer + 64; place++) {
            due.is(when + ": pixel(" + place + ")", x.pixel(place), want);
        }
    }

    private static void newObject() {
        ConvKernels x = new ConvKernels();
        allPixels("new", x, 0, 0);
        allPixels("new", x, 1, 0);
        for (int place = 0; place < 18; place++) {
            due.is("new: kernel(" + place + ", 0)", x.kernel(place, 0), 0);
        }
        due.is("new: width()", x.width(), 0);
        due.is("new: peak()", x.peak(), -1);
        due.is("new: sum()", x.sum(), 0);
        due.is("new: result(0, 0)", x.result(0, 0), 0);
        // Width 8 comes of stride 1 and margin 1 alone.
        due.is("new: move()", x.move(), 8);
        due.is("new: sum() after move()", x.sum(), 0);
        due.is("another one has its own numbers", twoObjects(), 0);
    }

    private static int twoObjects() {
        ConvKernels one = new ConvKernels();
        ConvKernels other = new ConvKernels();
        one.put(5, 7);
        return other.pixel(5);
    }

    private static void putGivesTheNumberBefore() {
        ConvKernels x = new ConvKernels();
        for (int place = 0; place < 128; place++) {
            due.is("put(" + place + ", first)", x.put(place, place % 41 - 20), 0);
        }
        for (int place = 0; place < 128; place++) {
            due.is("pixel(" + place + ")", x.pixel(place), place % 41 - 20);
        }
        for (int place = 0; place < 128; place++) {
            due.is("put(" + place + ", second)", x.put(place, 20 - place % 41), place % 41 - 20);
        }
        due.is("put(0, -20)", x.put(0, -20), 20);
        due.is("put(0, 20)", x.put(0, 20), -20);
    }

    private static void putRefuses() {
        ConvKernels x = new ConvKernels();
        x.fill(0, 3, 1010, 0);
        x.fill(1, 3, 1010, 0);
        for (int place : BAD_PLACES) {
            due.is("put(" + place + ", 1)", x.put(place, 1), BAD);
        }
        for (int v : new int[] {-21, 21, 100, Integer.MIN_VALUE, Integer.MAX_VALUE}) {
            due.is("put(0, " + v + ")", x.put(0, v), BAD);
            due.is("put(127, " + v + ")", x.put(127, v), BAD);
        }
        allPixels("after refused puts", x, 0, 3);
        allPixels("after refused puts", x, 1, 3);
    }

    private static void fillFollowsItsFormula() {
        for (int a : new int[] {-20, -7, 0, 1, 20}) {
            for (int b = -10; b <= 10; b++) {
                for (int d = -10; d <= 10; d++) {
                    for (int e = -3; e <= 3; e++) {
                        oneFill((b + d + e) & 1, a, b, d, e);
                    }
                }
            }
        }
    }

    private static void oneFill(int c, int a, int b, int d, int e) {
        ConvKernels o = new ConvKernels();
        int slopes = 100 * (b + 10) + d + 10;
        String call = "fill(" + c + ", " + a + ", " + slopes + ", " + e + ")";
        due.is(call, o.fill(c, a, slopes, e), 0);
        for (int y = 0; y < 8; y++) {
            for (int x = 0; x < 8; x++) {
                int want = Math.max(-20, Math.min(20, a + b * x + d * y + e * x * y));
                due.is(call + ": at (" + x + ", " + y + ")", o.pixel(64 * c + 8 * y + x), want);
            }
        }
    }

    private static void fillTouchesOneLayer() {
        ConvKernels x = new ConvKernels();
        x.fill(0, 4, 1010, 0);
        allPixels("fill(0, ..) leaves layer 1", x, 1, 0);
        x.fill(1, -5, 1010, 0);
        allPixels("fill(1, ..) leaves layer 0", x, 0, 4);
        allPixels("fill(1, ..)", x, 1, -5);
    }

    private static void fillRefuses() {
        ConvKernels x = new ConvKernels();
        x.fill(0, 6, 1010, 0);
        x.fill(1, 6, 1010, 0);
        int least = Integer.MIN_VALUE;
        int most = Integer.MAX_VALUE;
        for (int c : new int[] {-1, 2, least, most}) {
            due.is("fill(" + c + ", 0, 1010, 0)", x.fill(c, 0, 1010, 0), BAD);
        }
        for (int a : new int[] {-21, 21, least, most}) {
            due.is("fill(0, " + a + ", 1010, 0)", x.fill(0, a, 1010, 0), BAD);
        }
        for (int e : new int[] {-4, 4, least, most}) {
            due.is("fill(1, 0, 1010, " + e + ")", x.fill(1, 0, 1010, e), BAD);
        }
        for (int slopes : new int[] {-1, 21, 99, 121, 1999, 2021, 2100, 2110, least, most}) {
            due.is("fill(0, 0, " + slopes + ", 0)", x.fill(0, 0, slopes, 0), BAD);
        }
        allPixels("after refused fills", x, 0, 6);
        allPixels("after refused fills", x, 1, 6);
    }

    private static void fillKnowsItsSlopes() {
        for (int slopes = -1200; slopes <= 3200; slopes++) {
            boolean known = slopes >= 0 && slopes / 100 <= 20 && slopes % 100 <= 20;
            due.is("fill(0, 0, " + slopes + ", 0)", new ConvKernels().fill(0, 0, slopes, 0), known ? 0 : BAD);
        }
    }

    private static void pixelRefuses() {
        ConvKernels x = new ConvKernels();
        for (int place : BAD_PLACES) {
            due.is("pixel(" + place + ")", x.pixel(place), BAD);
        }
    }
}
