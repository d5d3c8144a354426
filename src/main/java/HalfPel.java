/** A half-sample bilinear fetch from two lines of eight samples, with rounding control. */
public final class HalfPel {
    private static final int REFUSED = -1;
    private static final int COLUMNS = 8;
    private static final int CELLS = 16;
    private static final int LAST_X2 = 14;
    private static final int LAST_Y2 = 2;

    private final byte[] cells = new byte[CELLS];
    private int rounding = 0;

    public HalfPel() {
    }

    public int setPixel(int i, int v) {
        if (!isCell(i)) {
            return REFUSED;
        }
        int before = unsigned(i);
        cells[i] = (byte) v;
        return before;
    }

    public int setRounding(int r) {
        int before = rounding;
        rounding = r & 1;
        return before;
    }

    public int sample(int x2, int y2) {
        if (x2 < 0 || x2 > LAST_X2 || y2 < 0 || y2 > LAST_Y2) {
            return REFUSED;
        }
        int a = (y2 >> 1) * COLUMNS + (x2 >> 1);
        boolean betweenColumns = (x2 & 1) != 0;
        boolean betweenLines = (y2 & 1) != 0;
        // Each case reads its own samples only: on the last column or line the others do not exist.
        if (betweenColumns && betweenLines) {
            return meanOfFour(a);
        }
        if (betweenColumns) {
            return meanOfTwo(a, a + 1);
        }
        if (betweenLines) {
            return meanOfTwo(a, a + COLUMNS);
        }
        return unsigned(a);
    }

    public int pixel(int i) {
        if (!isCell(i)) {
            return REFUSED;
        }
        return unsigned(i);
    }

    private static boolean isCell(int i) {
        return i >= 0 && i < CELLS;
    }

    // Java's bytes are signed, samples are not. The callers have looked at the index.
    private int unsigned(int i) {
        return cells[i] & 255;
    }

    private int meanOfTwo(int first, int second) {
        return (unsigned(first) + unsigned(second) + 1 - rounding) >> 1;
    }

    private int meanOfFour(int a) {
        int upper = unsigned(a) + unsigned(a + 1);
        int lower = unsigned(a + COLUMNS) + unsigned(a + COLUMNS + 1);
        return (upper + lower + 2 - rounding) >> 2;
    }
}
