/** The section "What it is", which holds for all promises. */
public final class WholeTest {
    public static void main(String[] args) {
        Due due = new Due();
        due.sentence("16 byte cells, numbered 0 to 15.");
        sixteenCells(due);
        due.sentence("Cell y * 8 + x is the sample at column x (0..7) of line y (0..1).");
        columnsAndLines(due);
        due.sentence("So cells 0..7 are line 0 and cells 8..15 are line 1.");
        theLinesMeetBetweenSevenAndEight(due);
        due.sentence("a rounding bit r, which is 0 or 1.");
        theBitIsZeroOrOne(due);
        due.sentence("Samples are always read unsigned, as cell & 255, so a sample read is always in 0..255.");
        alwaysUnsigned(due);
        due.sentence("The refusal code is -1.");
        theRefusalCode(due);
        due.sentence("A refused call changes nothing.");
        refusedCallsChangeNothing(due);
        due.sentence("No answer other than a refusal is ever -1.");
        noOtherAnswerIsTheRefusal(due);
        due.sentence("The constructor and every public method answer for any values of their arguments and "
            + "in every state: no call throws, and every call returns.");
        everyCallAnswers(due);
        due.sentence("(all promises together, in a long run of calls on one object)");
        aLongRun(due);
        due.end();
    }

    private static void sixteenCells(Due due) {
        HalfPel h = new HalfPel();
        for (int i = -40; i <= 40; i++) {
            h.setPixel(i, 100 + i);
        }
        for (int i = -40; i <= 40; i++) {
            due.answer(h.pixel(i), i >= 0 && i <= 15 ? 100 + i : -1, "pixel", i);
        }
    }

    private static void columnsAndLines(Due due) {
        for (int y = 0; y <= 1; y++) {
            for (int x = 0; x <= 7; x++) {
                HalfPel h = new HalfPel();
                h.setPixel(y * 8 + x, 201);
                for (int i = 0; i < 16; i++) {
                    due.answer(h.sample(i % 8 * 2, i / 8 * 2), i == y * 8 + x ? 201 : 0,
                        "cell " + (y * 8 + x) + " is 201, sample", i % 8 * 2, i / 8 * 2);
                }
            }
        }
    }

    private static void theLinesMeetBetweenSevenAndEight(Due due) {
        HalfPel h = new HalfPel();
        for (int i = 0; i <= 7; i++) {
            h.setPixel(i, 40);
            h.setPixel(8 + i, 240);
        }
        for (int x2 = 0; x2 <= 14; x2++) {
            due.answer(h.sample(x2, 0), 40, "sample", x2, 0);
            due.answer(h.sample(x2, 1), 140, "sample", x2, 1);
            due.answer(h.sample(x2, 2), 240, "sample", x2, 2);
        }
        h.setPixel(7, 7);
        h.setPixel(8, 8);
        due.answer(h.sample(14, 0), 7, "sample", 14, 0);
        due.answer(h.sample(0, 2), 8, "sample", 0, 2);
    }

    private static void theBitIsZeroOrOne(Due due) {
        HalfPel h = new HalfPel();
        for (int r : Inputs.ints()) {
            h.setRounding(r);
            int held = h.setRounding(r);
            due.holds(held == 0 || held == 1, "after setRounding(" + r + ") the bit is 0 or 1, not " + held);
        }
    }

    private static void alwaysUnsigned(Due due) {
        for (int v = 0; v <= 255; v++) {
            for (int r = 0; r <= 1; r++) {
                HalfPel h = new Model(Inputs.same(v), r).made();
                for (int i = 0; i < 16; i++) {
                    due.answer(h.pixel(i), v, "all cells " + v + ", pixel", i);
                    due.answer(h.setPixel(i, v - 256), v, "all cells " + v + ", setPixel", i, v - 256);
                }
                for (int y2 = 0; y2 <= 2; y2++) {
                    for (int x2 = 0; x2 <= 14; x2++) {
                        due.answer(h.sample(x2, y2), v, "all cells " + v + ", sample", x2, y2);
                    }
                }
            }
        }
    }

    private static void theRefusalCode(Due due) {
        HalfPel h = new HalfPel();
        for (int i : Inputs.outside(0, 15)) {
            due.answer(h.setPixel(i, 5), -1, "setPixel", i, 5);
            due.answer(h.pixel(i), -1, "pixel", i);
        }
        for (int x2 : Inputs.outside(0, 14)) {
            due.answer(h.sample(x2, 0), -1, "sample", x2, 0);
        }
        for (int y2 : Inputs.outside(0, 2)) {
            due.answer(h.sample(0, y2), -1, "sample", 0, y2);
        }
    }

    private static void refusedCallsChangeNothing(Due due) {
        for (Model state : Inputs.manyStates()) {
            HalfPel h = state.made();
            for (int bad : new int[] {Integer.MIN_VALUE, -256, -16, -8, -1, 16, 17, 24, 256, Integer.MAX_VALUE}) {
                h.setPixel(bad, 77);
                due.state(h, state, "setPixel", bad, 77);
                h.pixel(bad);
                due.state(h, state, "pixel", bad);
                h.sample(bad, 1);
                due.state(h, state, "sample", bad, 1);
                h.sample(5, bad);
                due.state(h, state, "sample", 5, bad);
            }
        }
    }

    /** A cell of 255 is the byte -1: full states are where a plain answer could look like a refusal. */
    private static void noOtherAnswerIsTheRefusal(Due due) {
        for (Model state : Inputs.manyStates()) {
            HalfPel h = state.made();
            for (int i = 0; i < 16; i++) {
                due.holds(h.pixel(i) != -1, "pixel(" + i + ") is not refused");
                due.holds(h.setPixel(i, -1) != -1, "setPixel(" + i + ", -1) is not refused");
                due.holds(h.setPixel(i, 255) != -1, "setPixel(" + i + ", 255) is not refused");
                due.holds(h.pixel(i) != -1, "pixel(" + i + ") of 255 is not refused");
            }
            for (int y2 = 0; y2 <= 2; y2++) {
                for (int x2 = 0; x2 <= 14; x2++) {
                    due.holds(h.sample(x2, y2) != -1, "sample(" + x2 + ", " + y2 + ") is not refused");
                }
            }
            due.holds(h.setRounding(-1) != -1, "setRounding(-1) is not refused");
            due.holds(h.setRounding(-1) != -1, "setRounding(-1) once more is not refused");
        }
    }

    /** That each returns is watched by Due: a call that doesn't ends the test with a failure. */
    private static void everyCallAnswers(Due due) {
        for (Model state : Inputs.states()) {
            String last = "new";
            try {
                HalfPel h = state.made();
                for (int a : Inputs.ints()) {
                    last = "pixel(" + a + ")";
                    h.pixel(a);
                    last = "setRounding(" + a + ")";
                    h.setRounding(a);
                    for (int b : Inputs.ints()) {
                        last = "sample or setPixel, " + a + ", " + b;
                        h.sample(a, b);
                        h.setPixel(a, b);
                    }
                }
                due.holds(true, "no call threw");
            } catch (Throwable thrown) {
                due.holds(false, last + " does not throw " + thrown);
            }
        }
    }

    private static void aLongRun(Due due) {
        Model model = new Model(Inputs.same(0), 0);
        HalfPel h = new HalfPel();
        int state = 20261115;
        for (int n = 0; n < 500000; n++) {
            state = state * 1103515245 + 12345;
            int i = (state >>> 8 & 31) - 8;
            int y2 = (state >>> 16 & 7) - 2;
            int v = state >> 3;
            switch (state >>> 29) {
                case 0:
                    due.answer(h.setRounding(v), model.setRounding(v), "setRounding", v);
                    break;
                case 1:
                    due.answer(h.pixel(i), model.pixel(i), "pixel", i);
                    break;
                case 2:
                case 3:
                case 4:
                    due.answer(h.sample(i, y2), model.sample(i, y2), "sample", i, y2);
                    break;
                default:
                    due.answer(h.setPixel(i, v), model.setPixel(i, v), "setPixel", i, v);
            }
        }
        due.state(h, model, "the run");
    }
}
