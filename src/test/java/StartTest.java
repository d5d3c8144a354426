/** Promise 1: the constructor and the start. */
public final class StartTest {
    public static void main(String[] args) {
        Due due = new Due();
        due.state("new", new HalfPel(), new int[16], 0);
        allSamplesAreZero(due);
        firstChangesShowTheStart(due);
        objectsShareNothing(due);
        due.end();
    }

    private static void allSamplesAreZero(Due due) {
        HalfPel h = new HalfPel();
        for (int y2 = 0; y2 <= 2; y2++) {
            for (int x2 = 0; x2 <= 14; x2++) {
                due.answer("new: sample(" + x2 + ", " + y2 + ")", h.sample(x2, y2), 0);
            }
        }
    }

    private static void firstChangesShowTheStart(Due due) {
        HalfPel h = new HalfPel();
        due.answer("new: setRounding(1)", h.setRounding(1), 0);
        for (int i = 0; i < 16; i++) {
            due.answer("new: setPixel(" + i + ", 9)", h.setPixel(i, 9), 0);
        }
        HalfPel odd = new HalfPel();
        odd.setPixel(0, 1);
        due.answer("new, cell 0 is 1: sample(1, 0)", odd.sample(1, 0), 1);
    }

    private static void objectsShareNothing(Due due) {
        HalfPel early = new HalfPel();
        HalfPel changed = Due.filled(Due.mixedCells(), 1);
        due.state("made before another was changed", early, new int[16], 0);
        due.state("made after another was changed", new HalfPel(), new int[16], 0);
        due.state("the changed one", changed, Due.mixedCells(), 1);
    }
}
