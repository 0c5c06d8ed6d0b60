/** The ordinary cases of promises 4, 6, 7, 8, 9 and 16: kernel, shape, move, width, result, way. */
public final class MovingTest {
    private static final Due due = new Due();

    public static void main(String[] args) {
        kernelGivesTheNumberBefore();
        shapeLeavesTheResult();
        for (int way = 0; way <= 3; way++) {
            onePixelUnderOneKernelNumber(way);
            moveReplacesTheResult(way);
        }
        moveLeavesThePicture();
        due.end();
    }

    private static void kernelGivesTheNumberBefore() {
        ConvKernels x = new ConvKernels();
        for (int place = 0; place < 18; place++) {
            due.is("kernel(" + place + ", first)", x.kernel(place, place - 9), 0);
        }
        for (int place = 0; place < 18; place++) {
            due.is("kernel(" + place + ", second)", x.kernel(place, 9), place - 9);
        }
        due.is("kernel(17, -9)", x.kernel(17, -9), 9);
    }

    private static void shapeLeavesTheResult() {
        ConvKernels x = new ConvKernels();
        x.put(63, 2);
        x.kernel(4, 3);
        x.move();
        due.is("shape(2, 0)", x.shape(2, 0), 3);
        due.is("width() after shape alone", x.width(), 8);
        due.is("result(7, 7) after shape alone", x.result(7, 7), 6);
    }

    /** Which places of the result see one number of the picture through one number of the kernel. */
    private static void onePixelUnderOneKernelNumber(int way) {
        for (int shape = 0; shape < 4; shape++) {
            int s = 1 + shape / 2;
            int m = shape % 2;
            for (int place = 0; place < 128; place++) {
                for (int number = 0; number < 18; number++) {
                    onePixel(way, s, m, place, number);
                }
            }
        }
    }

    private static void onePixel(int way, int s, int m, int place, int number) {
        ConvKernels o = new ConvKernels();
        o.way(way);
        o.shape(s, m);
        o.put(place, -7);
        o.kernel(number, 5);
        int w = o.move();
        String what = "way " + way + ", shape " + s + " " + m + ", place " + place + ", kernel " + number;
        for (int y = 0; y < w; y++) {
            for (int x = 0; x < w; x++) {
                boolean seen = place / 64 == number / 9
                        && s * x + number % 3 - m == place % 8
                        && s * y + number % 9 / 3 - m == place % 64 / 8;
                due.is(what + ": result(" + x + ", " + y + ")", o.result(x, y), seen ? -35 : 0);
            }
        }
    }

    private static void moveReplacesTheResult(int way) {
        ConvKernels x = new ConvKernels();
        x.way(way);
        x.fill(0, 1, 1010, 0);
        x.fill(1, 2, 1010, 0);
        x.kernel(4, 1);
        x.kernel(13, 1);
        for (int again = 0; again < 3; again++) {
            due.is("way " + way + ": move()", x.move(), 8);
            due.is("way " + way + ": sum()", x.sum(), 3 * 64);
        }
        x.fill(0, 0, 1010, 0);
        x.fill(1, 0, 1010, 0);
        x.move();
        due.is("way " + way + ": sum() of nothing", x.sum(), 0);
        x.thin();
        due.is("way " + way + ": move() after thin()", x.move(), 8);
    }

    private static void moveLeavesThePicture() {
        ConvKernels x = new ConvKernels();
        x.fill(0, -3, 1211, 1);
        x.fill(1, 2, 908, -1);
        x.kernel(3, 4);
        for (int way = 0; way <= 3; way++) {
            x.way(way);
            x.move();
        }
        for (int place = 0; place < 128; place++) {
            int px = place % 8;
            int py = place / 8 % 8;
            int number = place < 64 ? -3 + 2 * px + py + px * py : 2 - px - 2 * py - px * py;
            due.is("after moving: pixel(" + place + ")", x.pixel(place), Math.max(-20, Math.min(20, number)));
        }
        due.is("after moving: kernel(3, 0)", x.kernel(3, 0), 4);
    }
}
