/** Promise 5: pixel. */
public final class PixelTest {
    public static void main(String[] args) {
        Due due = new Due();
        due.sentence("pixel(i) answers the unsigned value (0..255) of cell i if i is in 0..15,");
        everyValueOfEveryCell(due);
        due.sentence("and -1 if i < 0");
        refused(due, Inputs.below(0));
        due.sentence("or i > 15.");
        refused(due, Inputs.above(15));
        due.sentence("The rounding bit has no influence on the answer.");
        bothBitsAnswerTheSame(due);
        due.sentence("The call changes nothing, neither a cell nor the rounding bit.");
        nothingChanges(due);
        due.end();
    }

    private static void everyValueOfEveryCell(Due due) {
        HalfPel h = new HalfPel();
        for (int i = 0; i <= 15; i++) {
            for (int v = 0; v <= 255; v++) {
                h.setPixel(i, v);
                due.answer(h.pixel(i), v, "pixel", i);
            }
        }
        HalfPel mixed = new Model(Inputs.mixed(), 0).made();
        for (int i = 0; i <= 15; i++) {
            due.answer(mixed.pixel(i), Inputs.mixed()[i], "pixel", i);
        }
    }

    private static void refused(Due due, Iterable<Integer> noCells) {
        for (Model state : Inputs.states()) {
            HalfPel h = state.made();
            for (int i : noCells) {
                due.answer(h.pixel(i), -1, "pixel", i);
            }
        }
    }

    private static void bothBitsAnswerTheSame(Due due) {
        HalfPel h = new HalfPel();
        for (int i : Inputs.ints()) {
            for (int v = 0; v <= 255; v++) {
                h.setPixel(i, v);
                h.setRounding(0);
                int answer = h.pixel(i);
                h.setRounding(1);
                due.answer(h.pixel(i), answer, "with the bit 1, pixel", i);
            }
        }
    }

    private static void nothingChanges(Due due) {
        for (Model state : Inputs.states()) {
            for (int i : Inputs.ints()) {
                HalfPel h = state.made();
                h.pixel(i);
                due.state(h, state, "pixel", i);
            }
        }
    }
}
