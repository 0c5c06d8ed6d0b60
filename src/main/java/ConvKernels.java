public final class ConvKernels {
    public static final int BAD_ARG = -1000000;

    private static final int LAYERS = 2;
    private static final int SIDE = 8;
    private static final int LAYER_SIZE = SIDE * SIDE;
    private static final int PICTURE_SIZE = LAYERS * LAYER_SIZE;
    private static final int PIXEL_LIMIT = 20;

    private static final int KERNEL_SIDE = 3;
    private static final int KERNEL_LAYER_SIZE = KERNEL_SIDE * KERNEL_SIDE;
    private static final int KERNEL_SIZE = LAYERS * KERNEL_LAYER_SIZE;
    private static final int KERNEL_LIMIT = 9;

    private static final int SLOPE_LIMIT = 10;
    private static final int SLOPE_BASE = 100;
    private static final int TWIST_LIMIT = 3;
    private static final int DIVISOR_LIMIT = 100;

    private static final int FRAME_SIDE = SIDE + 2;
    private static final int FRAME_SIZE = FRAME_SIDE * FRAME_SIDE;

    private static final int BY_RESULT = 0;
    private static final int BY_KERNEL = 1;
    private static final int BY_FRAME = 2;
    private static final int BY_PICTURE = 3;

    private final int[] picture = new int[PICTURE_SIZE];
    private final int[] kernelNumbers = new int[KERNEL_SIZE];
    // r(x, y) stands at SIDE * y + x whatever the width, so that thinning can be done in place.
    private final int[] resultNumbers = new int[LAYER_SIZE];
    // One layer with a border that is never written and so stays 0.
    private final int[] frame = new int[FRAME_SIZE];

    private int stride;
    private int margin;
    private int resultWidth;
    private int chosenWay;

    public ConvKernels() {
        stride = 1;
        margin = 1;
        resultWidth = 0;
        chosenWay = BY_RESULT;
    }

    public int put(int place, int v) {
        if (!isPicturePlace(place) || !isWithin(v, -PIXEL_LIMIT, PIXEL_LIMIT)) {
            return BAD_ARG;
        }
        int before = picture[place];
        picture[place] = v;
        return before;
    }

    public int fill(int c, int a, int slopes, int e) {
        if (!isLayer(c) || !isWithin(a, -PIXEL_LIMIT, PIXEL_LIMIT)
                || !areSlopes(slopes) || !isWithin(e, -TWIST_LIMIT, TWIST_LIMIT)) {
            return BAD_ARG;
        }
        int b = slopes / SLOPE_BASE - SLOPE_LIMIT;
        int d = slopes % SLOPE_BASE - SLOPE_LIMIT;
        for (int y = 0; y < SIDE; y++) {
            for (int x = 0; x < SIDE; x++) {
                picture[LAYER_SIZE * c + SIDE * y + x] = cut(a + b * x + d * y + e * x * y);
            }
        }
        return 0;
    }

    public int kernel(int place, int v) {
        if (!isWithin(place, 0, KERNEL_SIZE - 1) || !isWithin(v, -KERNEL_LIMIT, KERNEL_LIMIT)) {
            return BAD_ARG;
        }
        int before = kernelNumbers[place];
        kernelNumbers[place] = v;
        return before;
    }

    public int pixel(int place) {
        return isPicturePlace(place) ? picture[place] : BAD_ARG;
    }

    public int shape(int s, int m) {
        if (!isWithin(s, 1, 2) || !isWithin(m, 0, 1)) {
            return BAD_ARG;
        }
        stride = s;
        margin = m;
        return widthOfMoving();
    }

    public int move() {
        resultWidth = widthOfMoving();
        switch (chosenWay) {
            case BY_KERNEL:
                moveByKernel();
                break;
            case BY_FRAME:
                moveByFrame();
                break;
            case BY_PICTURE:
                moveByPicture();
                break;
            default:
                moveByResult();
                break;
        }
        return resultWidth;
    }

    public int width() {
        return resultWidth;
    }

    public int result(int x, int y) {
        if (!isWithin(x, 0, resultWidth - 1) || !isWithin(y, 0, resultWidth - 1)) {
            return 0;
        }
        return resultNumbers[SIDE * y + x];
    }

    public int floor() {
        int negatives = 0;
        for (int y = 0; y < resultWidth; y++) {
            for (int x = 0; x < resultWidth; x++) {
                if (resultNumbers[SIDE * y + x] < 0) {
                    resultNumbers[SIDE * y + x] = 0;
                    negatives++;
                }
            }
        }
        return negatives;
    }

    public int thin() {
        int half = resultWidth / 2;
        // In place: no square reads a place that an earlier square has written.
        for (int y = 0; y < half; y++) {
            for (int x = 0; x < half; x++) {
                resultNumbers[SIDE * y + x] = greatestOfSquare(2 * x, 2 * y);
            }
        }
        resultWidth = half;
        return resultWidth;
    }

    public int divide(int d) {
        if (!isWithin(d, 1, DIVISOR_LIMIT)) {
            return BAD_ARG;
        }
        for (int y = 0; y < resultWidth; y++) {
            for (int x = 0; x < resultWidth; x++) {
                resultNumbers[SIDE * y + x] = resultNumbers[SIDE * y + x] / d;
            }
        }
        return resultWidth;
    }

    public int take(int c) {
        if (!isLayer(c)) {
            return BAD_ARG;
        }
        int changed = 0;
        for (int y = 0; y < SIDE; y++) {
            for (int x = 0; x < SIDE; x++) {
                int place = LAYER_SIZE * c + SIDE * y + x;
                int before = picture[place];
                int found = result(x, y);
                picture[place] = cut(found);
                if (picture[place] != before) {
                    changed++;
                }
            }
        }
        return changed;
    }

    public int sum() {
        int total = 0;
        for (int y = 0; y < resultWidth; y++) {
            for (int x = 0; x < resultWidth; x++) {
                total += resultNumbers[SIDE * y + x];
            }
        }
        return total;
    }

    public int peak() {
        if (resultWidth == 0) {
            return -1;
        }
        int best = 0;
        for (int y = 0; y < resultWidth; y++) {
            for (int x = 0; x < resultWidth; x++) {
                // Strictly greater, so that of equals the first in reading order stays.
                if (resultNumbers[SIDE * y + x] > resultNumbers[best]) {
                    best = SIDE * y + x;
                }
            }
        }
        return best;
    }

    public int way(int n) {
        if (!isWithin(n, BY_RESULT, BY_PICTURE)) {
            return BAD_ARG;
        }
        chosenWay = n;
        return 0;
    }

    private static boolean isWithin(int v, int least, int greatest) {
        return v >= least && v <= greatest;
    }

    private static boolean isLayer(int c) {
        return isWithin(c, 0, LAYERS - 1);
    }

    private static boolean isPicturePlace(int place) {
        return isWithin(place, 0, PICTURE_SIZE - 1);
    }

    private static boolean areSlopes(int slopes) {
        int most = 2 * SLOPE_LIMIT;
        return isWithin(slopes, 0, SLOPE_BASE * most + most) && slopes % SLOPE_BASE <= most;
    }

    private static int cut(int v) {
        if (v < -PIXEL_LIMIT) {
            return -PIXEL_LIMIT;
        }
        return v > PIXEL_LIMIT ? PIXEL_LIMIT : v;
    }

    private int widthOfMoving() {
        int room = SIDE + 2 * margin - KERNEL_SIDE;
        // The stride is 1 or 2: halving by a literal leaves no divisor to be looked at.
        return (stride == 2 ? room / 2 : room) + 1;
    }

    private int pixelOrZero(int c, int x, int y) {
        if (!isWithin(x, 0, SIDE - 1) || !isWithin(y, 0, SIDE - 1)) {
            return 0;
        }
        return picture[LAYER_SIZE * c + SIDE * y + x];
    }

    private int greatestOfSquare(int left, int top) {
        int first = SIDE * top + left;
        int greatest = resultNumbers[first];
        for (int corner = 1; corner < 4; corner++) {
            int number = resultNumbers[first + SIDE * (corner / 2) + corner % 2];
            if (number > greatest) {
                greatest = number;
            }
        }
        return greatest;
    }

    private void clearResult() {
        for (int place = 0; place < LAYER_SIZE; place++) {
            resultNumbers[place] = 0;
        }
    }

    // Way 0: each number of the result gathers what lies under the kernel.

    private void moveByResult() {
        for (int y = 0; y < resultWidth; y++) {
            for (int x = 0; x < resultWidth; x++) {
                resultNumbers[SIDE * y + x] = sumUnderKernel(stride * x - margin, stride * y - margin);
            }
        }
    }

    private int sumUnderKernel(int left, int top) {
        int total = 0;
        for (int c = 0; c < LAYERS; c++) {
            for (int j = 0; j < KERNEL_SIDE; j++) {
                for (int i = 0; i < KERNEL_SIDE; i++) {
                    int number = kernelNumbers[KERNEL_LAYER_SIZE * c + KERNEL_SIDE * j + i];
                    total += number * pixelOrZero(c, left + i, top + j);
                }
            }
        }
        return total;
    }

    // Way 1: each number of the kernel adds its share to the whole result.

    private void moveByKernel() {
        clearResult();
        for (int place = 0; place < KERNEL_SIZE; place++) {
            if (kernelNumbers[place] != 0) {
                addShareOfKernelNumber(place);
            }
        }
    }

    private void addShareOfKernelNumber(int place) {
        int c = place / KERNEL_LAYER_SIZE;
        int j = place % KERNEL_LAYER_SIZE / KERNEL_SIDE;
        int i = place % KERNEL_SIDE;
        for (int y = 0; y < resultWidth; y++) {
            for (int x = 0; x < resultWidth; x++) {
                int under = pixelOrZero(c, stride * x + i - margin, stride * y + j - margin);
                resultNumbers[SIDE * y + x] += kernelNumbers[place] * under;
            }
        }
    }

    // Way 2: each layer is laid into a frame of zeros, so that nothing lies outside.

    private void moveByFrame() {
        clearResult();
        for (int c = 0; c < LAYERS; c++) {
            frameLayer(c);
            addFramedLayer(c);
        }
    }

    private void frameLayer(int c) {
        for (int y = 0; y < SIDE; y++) {
            for (int x = 0; x < SIDE; x++) {
                frame[FRAME_SIDE * (y + 1) + x + 1] = picture[LAYER_SIZE * c + SIDE * y + x];
            }
        }
    }

    private void addFramedLayer(int c) {
        // Without a margin the kernel starts inside the border.
        int inset = 1 - margin;
        for (int y = 0; y < resultWidth; y++) {
            for (int x = 0; x < resultWidth; x++) {
                int corner = FRAME_SIDE * (stride * y + inset) + stride * x + inset;
                resultNumbers[SIDE * y + x] += sumInFrame(c, corner);
            }
        }
    }

    private int sumInFrame(int c, int corner) {
        int total = 0;
        for (int j = 0; j < KERNEL_SIDE; j++) {
            for (int i = 0; i < KERNEL_SIDE; i++) {
                int number = kernelNumbers[KERNEL_LAYER_SIZE * c + KERNEL_SIDE * j + i];
                total += number * frame[corner + FRAME_SIDE * j + i];
            }
        }
        return total;
    }

    // Way 3: each number of the picture is spread over the places of the result that see it.

    private void moveByPicture() {
        clearResult();
        for (int place = 0; place < PICTURE_SIZE; place++) {
            if (picture[place] != 0) {
                spreadPixel(place);
            }
        }
    }

    private void spreadPixel(int place) {
        int c = place / LAYER_SIZE;
        int pixelY = place % LAYER_SIZE / SIDE;
        int pixelX = place % SIDE;
        for (int j = 0; j < KERNEL_SIDE; j++) {
            int y = resultLineSeeing(pixelY, j);
            for (int i = 0; i < KERNEL_SIDE; i++) {
                int x = resultLineSeeing(pixelX, i);
                if (x >= 0 && y >= 0) {
                    int number = kernelNumbers[KERNEL_LAYER_SIZE * c + KERNEL_SIDE * j + i];
                    resultNumbers[SIDE * y + x] += number * picture[place];
                }
            }
        }
    }

    // The x (or y) of the result whose kernel column (or row) lies on this one of the picture; -1 if none.
    private int resultLineSeeing(int pictureLine, int kernelLine) {
        int reach = pictureLine + margin - kernelLine;
        if (reach < 0 || stride == 2 && reach % 2 != 0) {
            return -1;
        }
        int line = stride == 2 ? reach / 2 : reach;
        return line < resultWidth ? line : -1;
    }
}
