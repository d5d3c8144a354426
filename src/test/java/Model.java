/**
 * The document once more, written another way than the class: two lines of whole numbers,
 * divisions in place of shifts. Tests hold the class against it where no number is at hand.
 */
final class Model {
    private final int[][] line = new int[2][8];
    int r;

    Model(int[] cells, int r) {
        for (int i = 0; i < 16; i++) {
            line[i / 8][i % 8] = cells[i];
        }
        this.r = r;
    }

    /** A new object that was brought to this state. */
    HalfPel made() {
        HalfPel h = new HalfPel();
        for (int i = 0; i < 16; i++) {
            h.setPixel(i, pixel(i));
        }
        h.setRounding(r);
        return h;
    }

    int setPixel(int i, int v) {
        int before = pixel(i);
        if (before != -1) {
            line[i / 8][i % 8] = Math.floorMod(v, 256);
        }
        return before;
    }

    int setRounding(int bit) {
        int before = r;
        r = Math.floorMod(bit, 2);
        return before;
    }

    int pixel(int i) {
        return i < 0 || i > 15 ? -1 : line[i / 8][i % 8];
    }

    int sample(int x2, int y2) {
        if (x2 < 0 || x2 > 14 || y2 < 0 || y2 > 2) {
            return -1;
        }
        int x = x2 / 2;
        int y = y2 / 2;
        if (x2 % 2 == 0 && y2 % 2 == 0) {
            return line[y][x];
        }
        if (y2 % 2 == 0) {
            return (line[y][x] + line[y][x + 1] + 1 - r) / 2;
        }
        if (x2 % 2 == 0) {
            return (line[y][x] + line[y + 1][x] + 1 - r) / 2;
        }
        return (line[y][x] + line[y][x + 1] + line[y + 1][x] + line[y + 1][x + 1] + 2 - r) / 4;
    }
}
