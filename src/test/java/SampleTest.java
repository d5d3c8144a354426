import java.lang.reflect.Field;
import java.util.Arrays;

/** Promise 4: sample. */
public final class SampleTest {
    public static void main(String[] args) throws Exception {
        Due due = new Due();
        answersWrittenByHand(due);
        everyPositionOfManyStates(due);
        everyPairOfSamples(due);
        everySumOfFour(due);
        refusals(due);
        noSampleBeyondTheNamedOnes(due);
        due.end();
    }

    private static void answersWrittenByHand(Due due) {
        int[] cells = {0, 1, 254, 255, 10, 13, 200, 255, 128, 127, 255, 255, 11, 15, 100, 0};
        int[][] rows = {
            // x2, y2, answer with r = 0, answer with r = 1
            {0, 0, 0, 0}, {14, 0, 255, 255}, {0, 2, 128, 128}, {14, 2, 0, 0}, {6, 2, 255, 255},
            {1, 0, 1, 0}, {3, 0, 128, 127}, {5, 0, 255, 254}, {9, 0, 12, 11}, {13, 0, 228, 227},
            {1, 2, 128, 127}, {5, 2, 255, 255}, {13, 2, 50, 50},
            {0, 1, 64, 64}, {4, 1, 255, 254}, {6, 1, 255, 255}, {8, 1, 11, 10}, {14, 1, 128, 127},
            {1, 1, 64, 64}, {5, 1, 255, 255}, {9, 1, 12, 12}, {13, 1, 139, 139}, {3, 1, 159, 159}
        };
        for (int r = 0; r <= 1; r++) {
            HalfPel h = Due.filled(cells, r);
            for (int[] row : rows) {
                due.answer("r " + r + ": sample(" + row[0] + ", " + row[1] + ")",
                    h.sample(row[0], row[1]), row[2 + r]);
            }
        }
    }

    private static void everyPositionOfManyStates(Due due) {
        for (int seed = 0; seed < 500; seed++) {
            int[] cells = cellsOf(seed);
            for (int r = 0; r <= 1; r++) {
                HalfPel h = Due.filled(cells, r);
                for (int y2 = 0; y2 <= 2; y2++) {
                    for (int x2 = 0; x2 <= 14; x2++) {
                        due.answer("state " + seed + ", r " + r + ": sample(" + x2 + ", " + y2 + ")",
                            h.sample(x2, y2), expected(cells, r, x2, y2));
                    }
                }
                due.state("state " + seed + " after all samples", h, cells, r);
            }
        }
    }

    private static void everyPairOfSamples(Due due) {
        for (int r = 0; r <= 1; r++) {
            HalfPel h = new HalfPel();
            h.setRounding(r);
            for (int a = 0; a <= 255; a++) {
                h.setPixel(6, a);
                for (int b = 0; b <= 255; b++) {
                    h.setPixel(7, b);
                    h.setPixel(14, b);
                    int want = (a + b + (r == 0 ? 1 : 0)) / 2;
                    due.answer(a + ", " + b + ", r " + r + ": sample(13, 0)", h.sample(13, 0), want);
                    due.answer(a + ", " + b + ", r " + r + ": sample(12, 1)", h.sample(12, 1), want);
                }
            }
        }
    }

    private static void everySumOfFour(Due due) {
        for (int r = 0; r <= 1; r++) {
            for (int sum = 0; sum <= 1020; sum++) {
                int[] cells = new int[16];
                int[] four = {6, 7, 14, 15};
                int left = sum;
                for (int k = 0; k < 4; k++) {
                    cells[four[(k + sum) % 4]] = Math.min(left, 255);
                    left -= Math.min(left, 255);
                }
                due.answer("sum " + sum + ", r " + r + ": sample(13, 1)",
                    Due.filled(cells, r).sample(13, 1), (sum + (r == 0 ? 2 : 1)) / 4);
            }
        }
    }

    private static void refusals(Due due) {
        int[] noX2 = {Integer.MIN_VALUE, -256, -16, -2, -1, 15, 16, 17, 28, 256, Integer.MAX_VALUE};
        int[] noY2 = {Integer.MIN_VALUE, -256, -3, -2, -1, 3, 4, 5, 256, Integer.MAX_VALUE};
        for (int r = 0; r <= 1; r++) {
            HalfPel h = Due.filled(Due.mixedCells(), r);
            for (int x2 : noX2) {
                for (int y2 = 0; y2 <= 2; y2++) {
                    refused(due, h, r, x2, y2);
                }
                for (int y2 : noY2) {
                    refused(due, h, r, x2, y2);
                }
            }
            for (int y2 : noY2) {
                for (int x2 = 0; x2 <= 14; x2++) {
                    refused(due, h, r, x2, y2);
                }
            }
        }
    }

    private static void refused(Due due, HalfPel h, int r, int x2, int y2) {
        due.answer("sample(" + x2 + ", " + y2 + ")", h.sample(x2, y2), -1);
        due.state("after sample(" + x2 + ", " + y2 + ")", h, Due.mixedCells(), r);
    }

    /**
     * The object gets an array that ends behind the last sample of the case, so that a read
     * beyond it throws. A read of B where only A and C are named lies before that end and
     * can't be seen this way.
     */
    private static void noSampleBeyondTheNamedOnes(Due due) throws Exception {
        int[] cells = Due.mixedCells();
        for (int y2 = 0; y2 <= 2; y2++) {
            for (int x2 = 0; x2 <= 14; x2++) {
                int last = (y2 + 1) / 2 * 8 + (x2 + 1) / 2;
                HalfPel h = Due.filled(cells, 0);
                due.answer("arrays cut behind cell " + last, cutBehind(h, last), 1);
                String call = "cut behind cell " + last + ": sample(" + x2 + ", " + y2 + ")";
                try {
                    due.answer(call, h.sample(x2, y2), expected(cells, 0, x2, y2));
                } catch (ArrayIndexOutOfBoundsException e) {
                    due.holds(call + " reads no other sample", false);
                }
            }
        }
    }

    /** Answers how many arrays were cut: without one, the check above would see nothing. */
    private static int cutBehind(HalfPel h, int last) throws Exception {
        int cut = 0;
        for (Field field : HalfPel.class.getDeclaredFields()) {
            if (field.getType() == byte[].class) {
                field.setAccessible(true);
                field.set(h, Arrays.copyOf((byte[]) field.get(h), last + 1));
                cut++;
            }
        }
        return cut;
    }

    /** The document's table, with divisions in place of shifts and the two lines kept apart. */
    private static int expected(int[] cells, int r, int x2, int y2) {
        int[][] line = {Arrays.copyOfRange(cells, 0, 8), Arrays.copyOfRange(cells, 8, 16)};
        int x = x2 / 2;
        int y = y2 / 2;
        if (x2 % 2 == 0 && y2 % 2 == 0) {
            return line[y][x];
        }
        if (y2 % 2 == 0) {
            return (line[y][x] + line[y][x + 1] + 1 - r) / 2;
        }
        if (x2 % 2 == 0) {
            return (line[y][x] + line[y + 1][x] + 1 - r) / 2;
        }
        return (line[y][x] + line[y][x + 1] + line[y + 1][x] + line[y + 1][x + 1] + 2 - r) / 4;
    }

    private static int[] cellsOf(int seed) {
        int[] cells = new int[16];
        int state = seed * 40503 + 1;
        for (int i = 0; i < 16; i++) {
            state = state * 1103515245 + 12345;
            int v = state >>> 16 & 255;
            // A part of the states has extreme samples alone.
            cells[i] = seed % 5 != 0 ? v : v < 128 ? v & 1 : 254 | v & 1;
        }
        return cells;
    }
}
