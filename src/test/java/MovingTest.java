/** Promises 4, 6, 7, 8, 9 and 16: kernel, shape, move, width, result, way. */
public final class MovingTest {
    private static final int BAD = -1000000;
    private static final int LEAST = Integer.MIN_VALUE;
    private static final int MOST = Integer.MAX_VALUE;
    private static final Due due = new Due();

    public static void main(String[] args) {
        kernelGivesTheNumberBefore();
        kernelRefuses();
        shapeTellsTheWidth();
        shapeRefuses();
        shapeLeavesTheResult();
        for (int way = 0; way <= 3; way++) {
            onePixelUnderOneKernelNumber(way);
            greatestSums(way);
            moveReplacesTheResult(way);
        }
        moveLeavesThePicture();
        resultIsZeroOutside();
        wayAnswersAndChangesNothing();
        due.end();
    }

    private static void kernelGivesTheNumberBefore() {
        ConvKernels x = new ConvKernels();
        for (int place = 0; place < 18; place++) {
            due.is("kernel(" + place + ", first)", x.kernel(place, place - 9), 0);
        }
        for (int place = 0; place < 18; place++) {
            due.is("kernel(" + place + ", second)", x.kernel(place, 9), place - 9);
        }
        due.is("kernel(17, -9)", x.kernel(17, -9), 9);
    }

    private static void kernelRefuses() {
        ConvKernels x = new ConvKernels();
        x.kernel(0, 5);
        x.kernel(17, 5);
        for (int place : new int[] {-1, 18, LEAST, MOST}) {
            due.is("kernel(" + place + ", 1)", x.kernel(place, 1), BAD);
        }
        for (int v : new int[] {-10, 10, LEAST, MOST}) {
            due.is("kernel(0, " + v + ")", x.kernel(0, v), BAD);
            due.is("kernel(17, " + v + ")", x.kernel(17, v), BAD);
        }
        for (int place = 0; place < 18; place++) {
            due.is("after refused ones: kernel(" + place + ", 0)", x.kernel(place, 0), place % 17 == 0 ? 5 : 0);
        }
    }

    private static void shapeTellsTheWidth() {
        ConvKernels x = new ConvKernels();
        int[][] shapes = {{1, 0, 6}, {2, 1, 4}, {2, 0, 3}, {1, 1, 8}};
        for (int[] shape : shapes) {
            due.is("shape(" + shape[0] + ", " + shape[1] + ")", x.shape(shape[0], shape[1]), shape[2]);
            due.is("move() then", x.move(), shape[2]);
            due.is("width() then", x.width(), shape[2]);
        }
    }

    private static void shapeRefuses() {
        ConvKernels x = new ConvKernels();
        x.shape(2, 0);
        for (int s : new int[] {-1, 0, 3, LEAST, MOST}) {
            due.is("shape(" + s + ", 1)", x.shape(s, 1), BAD);
        }
        for (int m : new int[] {-1, 2, LEAST, MOST}) {
            due.is("shape(1, " + m + ")", x.shape(1, m), BAD);
        }
        due.is("move() after refused shapes", x.move(), 3);
    }

    private static void shapeLeavesTheResult() {
        ConvKernels x = new ConvKernels();
        x.put(63, 2);
        x.kernel(4, 3);
        x.move();
        due.is("shape(2, 0)", x.shape(2, 0), 3);
        due.is("width() after shape alone", x.width(), 8);
        due.is("result(7, 7) after shape alone", x.result(7, 7), 6);
    }

    /** Which places of the result see one number of the picture through one number of the kernel. */
    private static void onePixelUnderOneKernelNumber(int way) {
        for (int shape = 0; shape < 4; shape++) {
            int s = 1 + shape / 2;
            int m = shape % 2;
            for (int place = 0; place < 128; place++) {
                for (int number = 0; number < 18; number++) {
                    onePixel(way, s, m, place, number);
                }
            }
        }
    }

    private static void onePixel(int way, int s, int m, int place, int number) {
        ConvKernels o = new ConvKernels();
        o.way(way);
        o.shape(s, m);
        o.put(place, -7);
        o.kernel(number, 5);
        int w = o.move();
        String what = "way " + way + ", shape " + s + " " + m + ", place " + place + ", kernel " + number;
        for (int y = 0; y < w; y++) {
            for (int x = 0; x < w; x++) {
                boolean seen = place / 64 == number / 9
                        && s * x + number % 3 - m == place % 8
                        && s * y + number % 9 / 3 - m == place % 64 / 8;
                due.is(what + ": result(" + x + ", " + y + ")", o.result(x, y), seen ? -35 : 0);
            }
        }
    }

    private static void greatestSums(int way) {
        ConvKernels x = new ConvKernels();
        x.way(way);
        x.fill(0, 20, 1010, 0);
        x.fill(1, -20, 1010, 0);
        for (int place = 0; place < 18; place++) {
            x.kernel(place, place < 9 ? 9 : -9);
        }
        x.move();
        due.is("way " + way + ": middle", x.result(4, 3), 3240);
        due.is("way " + way + ": border", x.result(0, 3), 2160);
        due.is("way " + way + ": corner", x.result(7, 7), 1440);
        for (int place = 0; place < 18; place++) {
            x.kernel(place, place < 9 ? -9 : 9);
        }
        x.shape(1, 0);
        x.move();
        due.is("way " + way + ": corner without margin", x.result(0, 0), -3240);
        due.is("way " + way + ": sum without margin", x.sum(), -3240 * 36);
    }

    private static void moveReplacesTheResult(int way) {
        ConvKernels x = new ConvKernels();
        x.way(way);
        x.fill(0, 1, 1010, 0);
        x.fill(1, 2, 1010, 0);
        x.kernel(4, 1);
        x.kernel(13, 1);
        for (int again = 0; again < 3; again++) {
            due.is("way " + way + ": move()", x.move(), 8);
            due.is("way " + way + ": sum()", x.sum(), 3 * 64);
        }
        x.fill(0, 0, 1010, 0);
        x.fill(1, 0, 1010, 0);
        x.move();
        due.is("way " + way + ": sum() of nothing", x.sum(), 0);
        x.thin();
        due.is("way " + way + ": move() after thin()", x.move(), 8);
    }

    private static void moveLeavesThePicture() {
        ConvKernels x = new ConvKernels();
        x.fill(0, -3, 1211, 1);
        x.fill(1, 2, 908, -1);
        x.kernel(3, 4);
        for (int way = 0; way <= 3; way++) {
            x.way(way);
            x.move();
        }
        for (int place = 0; place < 128; place++) {
            int px = place % 8;
            int py = place / 8 % 8;
            int number = place < 64 ? -3 + 2 * px + py + px * py : 2 - px - 2 * py - px * py;
            due.is("after moving: pixel(" + place + ")", x.pixel(place), Math.max(-20, Math.min(20, number)));
        }
        due.is("after moving: kernel(3, 0)", x.kernel(3, 0), 4);
    }

    private static void resultIsZeroOutside() {
        int[][] shapes = {{1, 1}, {1, 0}, {2, 1}, {2, 0}};
        for (int[] shape : shapes) {
            ConvKernels x = new ConvKernels();
            x.fill(0, 1, 1010, 0);
            x.kernel(4, 1);
            // A wide result first, so that its numbers are there to be shown by mistake.
            x.move();
            x.shape(shape[0], shape[1]);
            int w = x.move();
            due.is("result(w - 1, w - 1)", x.result(w - 1, w - 1), 1);
            for (int far : new int[] {-1, w, w + 1, 8, 64, LEAST, MOST}) {
                due.is("w " + w + ": result(" + far + ", 0)", x.result(far, 0), 0);
                due.is("w " + w + ": result(0, " + far + ")", x.result(0, far), 0);
                due.is("w " + w + ": result(" + far + ", " + far + ")", x.result(far, far), 0);
            }
            // Places that an index of 8 y + x would find although there is no such x.
            due.is("w " + w + ": result(8, -1)", x.result(8, -1), 0);
            due.is("w " + w + ": result(-8, 1)", x.result(-8, 1), 0);
        }
    }

    private static void wayAnswersAndChangesNothing() {
        ConvKernels x = new ConvKernels();
        x.fill(0, -9, 1311, 1);
        x.kernel(0, 2);
        x.kernel(5, -3);
        x.move();
        int sum = x.sum();
        int peak = x.peak();
        for (int n : new int[] {0, 1, 2, 3}) {
            due.is("way(" + n + ")", x.way(n), 0);
            due.is("width() after way", x.width(), 8);
            due.is("sum() after way", x.sum(), sum);
            due.is("move() after way", x.move(), 8);
            due.is("sum() after way and move", x.sum(), sum);
            due.is("peak() after way and move", x.peak(), peak);
        }
        for (int n : new int[] {-1, 4, LEAST, MOST}) {
            due.is("way(" + n + ")", x.way(n), BAD);
            due.is("move() after a refused way", x.move(), 8);
            due.is("sum() after a refused way", x.sum(), sum);
        }
    }
}
