/** Promise 2: setPixel. */
public final class SetPixelTest {
    public static void main(String[] args) {
        Due due = new Due();
        theDocumentsExamples(due);
        everyCellTakesEveryValue(due);
        onlyTheNamedCellChanges(due);
        refusals(due);
        due.end();
    }

    private static void theDocumentsExamples(Due due) {
        int[] given = {255, -1, 256, -128, 128};
        int[] left = {255, 255, 0, 128, 128};
        for (int k = 0; k < given.length; k++) {
            HalfPel h = new HalfPel();
            h.setPixel(4, 77);
            due.answer("setPixel(4, " + given[k] + ")", h.setPixel(4, given[k]), 77);
            due.answer("pixel(4) after setPixel(4, " + given[k] + ")", h.pixel(4), left[k]);
        }
    }

    private static void everyCellTakesEveryValue(Due due) {
        for (int i = 0; i < 16; i++) {
            HalfPel h = new HalfPel();
            int held = 0;
            for (int v = -600; v <= 600; v++) {
                due.answer("setPixel(" + i + ", " + v + ")", h.setPixel(i, v), held);
                held = v & 255;
                due.answer("pixel(" + i + ") after " + v, h.pixel(i), held);
            }
            for (int v : Due.EDGE_INTS) {
                due.answer("setPixel(" + i + ", " + v + ")", h.setPixel(i, v), held);
                held = v & 255;
                due.answer("pixel(" + i + ") after " + v, h.pixel(i), held);
            }
        }
    }

    private static void onlyTheNamedCellChanges(Due due) {
        for (int rounding = 0; rounding <= 1; rounding++) {
            for (int i = 0; i < 16; i++) {
                for (int v : Due.EDGE_INTS) {
                    int[] cells = Due.mixedCells();
                    HalfPel h = Due.filled(cells, rounding);
                    due.answer("setPixel(" + i + ", " + v + ")", h.setPixel(i, v), cells[i]);
                    cells[i] = v & 255;
                    due.state("after setPixel(" + i + ", " + v + ")", h, cells, rounding);
                }
            }
        }
    }

    private static void refusals(Due due) {
        for (int rounding = 0; rounding <= 1; rounding++) {
            HalfPel h = Due.filled(Due.mixedCells(), rounding);
            for (int i : Due.NO_CELL) {
                for (int v : Due.EDGE_INTS) {
                    due.answer("setPixel(" + i + ", " + v + ")", h.setPixel(i, v), -1);
                    due.state("after setPixel(" + i + ", " + v + ")", h, Due.mixedCells(), rounding);
                }
            }
        }
    }
}
