/** Promise 2: setPixel. */
public final class SetPixelTest {
    public static void main(String[] args) {
        Due due = new Due();
        due.sentence("If i < 0: answers -1 and changes nothing, whatever v is.");
        refused(due, Inputs.below(0));
        due.sentence("If i > 15: answers -1 and changes nothing, whatever v is.");
        refused(due, Inputs.above(15));
        due.sentence("Otherwise (i in 0..15): stores v narrowed to byte into cell i");
        everyCellStores(due);
        due.sentence("and answers the unsigned value (0..255) that cell i held before the call.");
        everyCellAnswersWhatItHeld(due);
        due.sentence("Every int is allowed for v; it is never a reason to refuse.");
        noValueIsRefused(due);
        due.sentence("only the low 8 bits of v are kept, so the unsigned value of cell i after the call is v & 255.");
        onlyTheLowBitsAreKept(due);
        due.sentence("For example, v = 255 and v = -1 both leave the unsigned value 255, v = 256 leaves 0, "
            + "and v = -128 and v = 128 both leave 128.");
        theExamples(due);
        due.sentence("The other 15 cells and the rounding bit do not change.");
        theOthersDoNotChange(due);
        due.end();
    }

    private static void refused(Due due, Iterable<Integer> noCells) {
        for (Model state : Inputs.states()) {
            HalfPel h = state.made();
            for (int i : noCells) {
                for (int v : new int[] {Integer.MIN_VALUE, -129, -128, -1, 0, 1, 77, 128, 255, 256, Integer.MAX_VALUE}) {
                    due.answer(h.setPixel(i, v), -1, "setPixel", i, v);
                    due.state(h, state, "setPixel", i, v);
                }
            }
        }
    }

    private static void everyCellStores(Due due) {
        for (int i = 0; i <= 15; i++) {
            HalfPel h = new HalfPel();
            for (int v = 0; v <= 255; v++) {
                h.setPixel(i, v);
                due.answer(h.pixel(i), v, "setPixel, then pixel", i, v);
            }
        }
    }

    private static void everyCellAnswersWhatItHeld(Due due) {
        for (int i = 0; i <= 15; i++) {
            HalfPel h = new HalfPel();
            for (int before = 0; before <= 255; before++) {
                h.setPixel(i, before);
                due.answer(h.setPixel(i, 255 - before), before, "setPixel", i, 255 - before);
                due.answer(h.setPixel(i, 255 - before), 255 - before, "setPixel", i, 255 - before);
            }
        }
    }

    private static void noValueIsRefused(Due due) {
        for (int i = 0; i <= 15; i++) {
            HalfPel h = new HalfPel();
            for (int v : Inputs.ints()) {
                h.setPixel(i, 33);
                due.answer(h.setPixel(i, v), 33, "setPixel", i, v);
            }
        }
    }

    private static void onlyTheLowBitsAreKept(Due due) {
        for (int i = 0; i <= 15; i++) {
            HalfPel h = new HalfPel();
            for (int v : Inputs.ints()) {
                h.setPixel(i, v);
                due.answer(h.pixel(i), v & 255, "setPixel, then pixel", i, v);
            }
            for (int v = -70000; v <= 70000; v++) {
                h.setPixel(i, v);
                due.answer(h.pixel(i), v & 255, "setPixel, then pixel", i, v);
            }
        }
    }

    private static void theExamples(Due due) {
        int[] given = {255, -1, 256, -128, 128};
        int[] left = {255, 255, 0, 128, 128};
        for (int i = 0; i <= 15; i++) {
            for (int k = 0; k < given.length; k++) {
                HalfPel h = new HalfPel();
                h.setPixel(i, 77);
                due.answer(h.setPixel(i, given[k]), 77, "setPixel", i, given[k]);
                due.answer(h.pixel(i), left[k], "setPixel, then pixel", i, given[k]);
            }
        }
    }

    private static void theOthersDoNotChange(Due due) {
        for (int k = 0; k < Inputs.states().size(); k++) {
            for (int i = 0; i <= 15; i++) {
                for (int v : Inputs.ints()) {
                    Model state = Inputs.states().get(k);
                    HalfPel h = state.made();
                    h.setPixel(i, v);
                    state.setPixel(i, v);
                    due.state(h, state, "setPixel", i, v);
                }
            }
        }
    }
}
