/**
 * The document once more, written apart from the program and close to its words, to compare with.
 * A point of the picture or the result is [y][x]; the kernel is k[c][i][j].
 */
final class Model {
    static final int BAD = -1000000;

    int[][][] layers = new int[2][8][8];
    int[][][] k = new int[2][3][3];
    int s = 1;
    int m = 1;
    int[][] r = new int[0][0];

    private static boolean out(int v, int least, int greatest) {
        return v < least || v > greatest;
    }

    private static int cut(int v) {
        return Math.max(-20, Math.min(20, v));
    }

    int put(int place, int v) {
        if (out(place, 0, 127) || out(v, -20, 20)) return BAD;
        int[] row = layers[place / 64][place / 8 % 8];
        int before = row[place % 8];
        row[place % 8] = v;
        return before;
    }

    int fill(int c, int a, int slopes, int e) {
        if (out(c, 0, 1) || out(a, -20, 20) || out(e, -3, 3)) return BAD;
        for (int b = -10; b <= 10; b++) {
            for (int d = -10; d <= 10; d++) {
                if (100 * (b + 10) + d + 10 == slopes) {
                    for (int x = 0; x < 8; x++) {
                        for (int y = 0; y < 8; y++) layers[c][y][x] = cut(a + b * x + d * y + e * x * y);
                    }
                    return 0;
                }
            }
        }
        return BAD;
    }

    int kernel(int place, int v) {
        if (out(place, 0, 17) || out(v, -9, 9)) return BAD;
        int[] column = k[place / 9][place % 3];
        int j = place % 9 / 3;
        int before = column[j];
        column[j] = v;
        return before;
    }

    int pixel(int place) {
        return out(place, 0, 127) ? BAD : layers[place / 64][place / 8 % 8][place % 8];
    }

    int shape(int newS, int newM) {
        if (out(newS, 1, 2) || out(newM, 0, 1)) return BAD;
        s = newS;
        m = newM;
        return widthToCome();
    }

    private int widthToCome() {
        return Math.floorDiv(8 + 2 * m - 3, s) + 1;
    }

    private int at(int c, int x, int y) {
        return out(x, 0, 7) || out(y, 0, 7) ? 0 : layers[c][y][x];
    }

    int move() {
        int w = widthToCome();
        r = new int[w][w];
        for (int x = 0; x < w; x++) {
            for (int y = 0; y < w; y++) {
                for (int c = 0; c < 2; c++) {
                    for (int i = 0; i < 3; i++) {
                        for (int j = 0; j < 3; j++) r[y][x] += k[c][i][j] * at(c, s * x + i - m, s * y + j - m);
                    }
                }
            }
        }
        return w;
    }

    int width() {
        return r.length;
    }

    int result(int x, int y) {
        return out(x, 0, r.length - 1) || out(y, 0, r.length - 1) ? 0 : r[y][x];
    }

    int floor() {
        int count = 0;
        for (int[] row : r) {
            for (int x = 0; x < row.length; x++) {
                if (row[x] < 0) {
                    row[x] = 0;
                    count++;
                }
            }
        }
        return count;
    }

    int thin() {
        int w = r.length / 2;
        int[][] thinned = new int[w][w];
        for (int x = 0; x < w; x++) {
            for (int y = 0; y < w; y++) {
                int upper = Math.max(r[2 * y][2 * x], r[2 * y][2 * x + 1]);
                int lower = Math.max(r[2 * y + 1][2 * x], r[2 * y + 1][2 * x + 1]);
                thinned[y][x] = Math.max(upper, lower);
            }
        }
        r = thinned;
        return w;
    }

    int divide(int d) {
        if (out(d, 1, 100)) return BAD;
        for (int[] row : r) {
            for (int x = 0; x < row.length; x++) row[x] = Integer.signum(row[x]) * (Math.abs(row[x]) / d);
        }
        return r.length;
    }

    int take(int c) {
        if (out(c, 0, 1)) return BAD;
        int changed = 0;
        for (int x = 0; x < 8; x++) {
            for (int y = 0; y < 8; y++) {
                int v = cut(result(x, y));
                if (layers[c][y][x] != v) changed++;
                layers[c][y][x] = v;
            }
        }
        return changed;
    }

    int sum() {
        int total = 0;
        for (int[] row : r) {
            for (int v : row) total += v;
        }
        return total;
    }

    int peak() {
        int best = -1;
        int greatest = Integer.MIN_VALUE;
        for (int y = 0; y < r.length; y++) {
            for (int x = 0; x < r.length; x++) {
                if (r[y][x] > greatest) {
                    greatest = r[y][x];
                    best = 8 * y + x;
                }
            }
        }
        return best;
    }

    int way(int n) {
        return out(n, 0, 3) ? BAD : 0;
    }
}
