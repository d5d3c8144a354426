/** Promise 3: setRounding. */
public final class SetRoundingTest {
    public static void main(String[] args) {
        Due due = new Due();
        evenIsZeroAndOddIsOne(due);
        everyArgumentFromBothBits(due);
        theBitHasItsEffect(due);
        due.end();
    }

    private static void evenIsZeroAndOddIsOne(Due due) {
        int[] even = {0, 2, 4, -2, -4, 256, Integer.MIN_VALUE, Integer.MAX_VALUE - 1};
        int[] odd = {1, 3, 5, -1, -3, 255, Integer.MIN_VALUE + 1, Integer.MAX_VALUE};
        HalfPel h = new HalfPel();
        for (int k = 0; k < even.length; k++) {
            due.answer("setRounding(" + odd[k] + ")", h.setRounding(odd[k]), 0);
            due.answer("setRounding(" + even[k] + ")", h.setRounding(even[k]), 1);
        }
    }

    private static void everyArgumentFromBothBits(Due due) {
        for (int before = 0; before <= 1; before++) {
            for (int r : Due.EDGE_INTS) {
                HalfPel h = Due.filled(Due.mixedCells(), before);
                due.answer("setRounding(" + r + ")", h.setRounding(r), before);
                due.state("after setRounding(" + r + ")", h, Due.mixedCells(), r % 2 == 0 ? 0 : 1);
            }
        }
    }

    private static void theBitHasItsEffect(Due due) {
        HalfPel h = new HalfPel();
        h.setPixel(0, 1);
        for (int r : Due.EDGE_INTS) {
            h.setRounding(r);
            due.answer("sample(1, 0) after setRounding(" + r + ")", h.sample(1, 0), r % 2 == 0 ? 1 : 0);
        }
    }
}
