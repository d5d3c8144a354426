/** Promise 5: pixel. */
public final class PixelTest {
    public static void main(String[] args) {
        Due due = new Due();
        for (int rounding = 0; rounding <= 1; rounding++) {
            everyValueIsUnsigned(due, rounding);
            nothingChanges(due, rounding);
            refusals(due, rounding);
        }
        due.end();
    }

    private static void everyValueIsUnsigned(Due due, int rounding) {
        HalfPel h = new HalfPel();
        h.setRounding(rounding);
        for (int i = 0; i < 16; i++) {
            for (int v = 0; v <= 255; v++) {
                h.setPixel(i, v);
                due.answer("pixel(" + i + ")", h.pixel(i), v);
            }
        }
    }

    private static void nothingChanges(Due due, int rounding) {
        HalfPel h = Due.filled(Due.mixedCells(), rounding);
        for (int i = 0; i < 16; i++) {
            due.answer("pixel(" + i + ")", h.pixel(i), Due.mixedCells()[i]);
            due.state("after pixel(" + i + ")", h, Due.mixedCells(), rounding);
        }
    }

    private static void refusals(Due due, int rounding) {
        HalfPel h = Due.filled(Due.mixedCells(), rounding);
        for (int i : Due.NO_CELL) {
            due.answer("pixel(" + i + ")", h.pixel(i), -1);
            due.state("after pixel(" + i + ")", h, Due.mixedCells(), rounding);
        }
    }
}
