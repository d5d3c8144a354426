/** Promise 3: setRounding. */
public final class SetRoundingTest {
    public static void main(String[] args) {
        Due due = new Due();
        due.sentence("setRounding(r) sets the rounding bit to r & 1");
        theBitIsSet(due);
        due.sentence("and answers the bit held before the call (0 or 1).");
        theBitBeforeIsAnswered(due);
        due.sentence("It is never refused; every int is allowed.");
        neverRefused(due);
        due.sentence("Even arguments, including 0, negative even numbers and the least int, set the bit to 0;");
        sets(due, 0, 0, 2, 4, 256, -2, -4, -128, -256, Integer.MIN_VALUE, Integer.MIN_VALUE + 2, Integer.MAX_VALUE - 1);
        due.sentence("odd arguments, including -1 and the greatest int, set it to 1.");
        sets(due, 1, 1, 3, 5, 255, -1, -3, -127, -255, Integer.MAX_VALUE, Integer.MAX_VALUE - 2, Integer.MIN_VALUE + 1);
        due.sentence("No cell changes.");
        noCellChanges(due);
        due.end();
    }

    /** Seen by the next call's answer and by a sample that rounds: with cells 1 and 0 it is 1 - r. */
    private static void theBitIsSet(Due due) {
        for (int before = 0; before <= 1; before++) {
            for (int r : Inputs.ints()) {
                HalfPel h = new HalfPel();
                h.setPixel(0, 1);
                h.setRounding(before);
                h.setRounding(r);
                due.answer(h.sample(1, 0), 1 - (r & 1), "setRounding, then sample(1, 0)", r);
                due.answer(h.setRounding(0), r & 1, "setRounding, then setRounding(0)", r);
            }
        }
    }

    private static void theBitBeforeIsAnswered(Due due) {
        HalfPel h = new HalfPel();
        int[] given = {0, 0, 1, 1, 0, 1, 0, 0, 3, 2, -1, -2, 5, 7};
        int[] held = {0, 0, 0, 1, 1, 0, 1, 0, 0, 1, 0, 1, 0, 1};
        for (int k = 0; k < given.length; k++) {
            due.answer(h.setRounding(given[k]), held[k], "call " + k + ", setRounding", given[k]);
        }
    }

    private static void neverRefused(Due due) {
        for (Model state : Inputs.states()) {
            for (int r : Inputs.ints()) {
                HalfPel h = state.made();
                int answer = h.setRounding(r);
                due.holds(answer == 0 || answer == 1, "setRounding(" + r + ") answers a bit");
            }
        }
    }

    private static void sets(Due due, int bit, int... all) {
        for (int r : all) {
            for (int before = 0; before <= 1; before++) {
                HalfPel h = new HalfPel();
                h.setRounding(before);
                h.setRounding(r);
                due.answer(h.setRounding(0), bit, "setRounding, then setRounding(0)", r);
            }
        }
    }

    private static void noCellChanges(Due due) {
        for (int k = 0; k < Inputs.states().size(); k++) {
            for (int r : Inputs.ints()) {
                Model state = Inputs.states().get(k);
                HalfPel h = state.made();
                h.setRounding(r);
                state.setRounding(r);
                due.state(h, state, "setRounding", r);
            }
        }
    }
}
