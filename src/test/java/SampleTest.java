/** Promise 4: sample; which samples it reads is the matter of SamplesReadTest. */
public final class SampleTest {
    public static void main(String[] args) {
        Due due = new Due();
        due.sentence("If x2 < 0: answers -1.");
        refusedForX2(due, Inputs.below(0));
        due.sentence("If x2 > 14: answers -1.");
        refusedForX2(due, Inputs.above(14));
        due.sentence("If y2 < 0: answers -1.");
        refusedForY2(due, Inputs.below(0));
        due.sentence("If y2 > 2: answers -1.");
        refusedForY2(due, Inputs.above(2));
        due.sentence("or: both x2 and y2 outside: answers -1.");
        refusedForBoth(due);
        due.sentence("A, B, C and D are the samples at columns x and x + 1, lines y and y + 1.");
        whereTheSamplesAre(due);
        due.sentence("x2 even, y2 even: A");
        bothEven(due);
        due.sentence("x2 odd, y2 even: (A + B + 1 - r) >> 1");
        everyPair(due, 1, 0, 0, 1);
        everyPair(due, 13, 2, 14, 15);
        due.sentence("x2 even, y2 odd: (A + C + 1 - r) >> 1");
        everyPair(due, 0, 1, 0, 8);
        everyPair(due, 14, 1, 7, 15);
        due.sentence("x2 odd, y2 odd: (A + B + C + D + 2 - r) >> 2");
        everySumOfFour(due);
        due.sentence("The answers of the table, at every position of many states.");
        everyPositionOfManyStates(due);
        due.sentence("The answers of the table, worked out by hand.");
        answersWrittenByHand(due);
        due.sentence("The sums are int sums of the unsigned samples; they do not wrap around,");
        theGreatestSumsDoNotWrap(due);
        due.sentence("and the answer is always in 0..255.");
        alwaysASample(due);
        due.sentence("The rounding bit has no influence when both coordinates are even.");
        theBitHasNoInfluence(due);
        due.sentence("With x2 = 14 the column is 7 and x2 is even");
        seesOnly(due, 14, 0, 7);
        seesOnly(due, 14, 1, 7, 15);
        seesOnly(due, 14, 2, 15);
        due.sentence("with y2 = 2 the line is 1 and y2 is even");
        for (int x = 0; x <= 7; x++) {
            seesOnly(due, 2 * x, 2, 8 + x);
        }
        for (int x = 0; x <= 6; x++) {
            seesOnly(due, 2 * x + 1, 2, 8 + x, 9 + x);
        }
        due.sentence("With x2 = 13 the columns are 6 and 7;");
        seesOnly(due, 13, 0, 6, 7);
        seesOnly(due, 13, 1, 6, 7, 14, 15);
        seesOnly(due, 13, 2, 14, 15);
        due.sentence("with y2 = 1 the lines are 0 and 1.");
        for (int x = 0; x <= 7; x++) {
            seesOnly(due, 2 * x, 1, x, 8 + x);
        }
        for (int x = 0; x <= 6; x++) {
            seesOnly(due, 2 * x + 1, 1, x, x + 1, 8 + x, 9 + x);
        }
        due.sentence("The call changes nothing, neither a cell nor the rounding bit: where it is not refused.");
        nothingChangesByAnAnswer(due);
        due.sentence("The call changes nothing, neither a cell nor the rounding bit: where it is refused.");
        nothingChangesByARefusal(due);
        due.end();
    }

    private static void refusedForX2(Due due, Iterable<Integer> noX2) {
        for (Model state : Inputs.states()) {
            HalfPel h = state.made();
            for (int x2 : noX2) {
                for (int y2 = 0; y2 <= 2; y2++) {
                    due.answer(h.sample(x2, y2), -1, "sample", x2, y2);
                }
            }
        }
    }

    private static void refusedForY2(Due due, Iterable<Integer> noY2) {
        for (Model state : Inputs.states()) {
            HalfPel h = state.made();
            for (int y2 : noY2) {
                for (int x2 = 0; x2 <= 14; x2++) {
                    due.answer(h.sample(x2, y2), -1, "sample", x2, y2);
                }
            }
        }
    }

    private static void refusedForBoth(Due due) {
        HalfPel h = new Model(Inputs.mixed(), 0).made();
        for (int x2 : Inputs.outside(0, 14)) {
            for (int y2 : Inputs.outside(0, 2)) {
                due.answer(h.sample(x2, y2), -1, "sample", x2, y2);
            }
        }
    }

    /** One cell is 200, the others are 0: the answer tells whether that cell has a part in it. */
    private static void whereTheSamplesAre(Due due) {
        for (int y2 = 0; y2 <= 2; y2++) {
            for (int x2 = 0; x2 <= 14; x2++) {
                for (int i = 0; i < 16; i++) {
                    boolean inColumns = i % 8 >= x2 / 2 && i % 8 <= (x2 + 1) / 2;
                    boolean inLines = i / 8 >= y2 / 2 && i / 8 <= (y2 + 1) / 2;
                    int parts = (1 + x2 % 2) * (1 + y2 % 2);
                    HalfPel h = new HalfPel();
                    h.setPixel(i, 200);
                    due.answer(h.sample(x2, y2), inColumns && inLines ? 200 / parts : 0,
                        "with cell " + i + " alone, sample", x2, y2);
                }
            }
        }
    }

    private static void bothEven(Due due) {
        HalfPel h = new HalfPel();
        for (int i = 0; i < 16; i++) {
            for (int v = 0; v <= 255; v++) {
                h.setPixel(i, v);
                due.answer(h.sample(i % 8 * 2, i / 8 * 2), v, "sample", i % 8 * 2, i / 8 * 2);
            }
        }
    }

    private static void everyPair(Due due, int x2, int y2, int first, int second) {
        for (int r = 0; r <= 1; r++) {
            HalfPel h = new HalfPel();
            h.setRounding(r);
            for (int a = 0; a <= 255; a++) {
                h.setPixel(first, a);
                for (int b = 0; b <= 255; b++) {
                    h.setPixel(second, b);
                    due.answer(h.sample(x2, y2), (a + b + (r == 0 ? 1 : 0)) / 2, "sample", x2, y2);
                }
            }
        }
    }

    private static void everySumOfFour(Due due) {
        int[] four = {6, 7, 14, 15};
        for (int r = 0; r <= 1; r++) {
            for (int sum = 0; sum <= 1020; sum++) {
                for (int turn = 0; turn < 4; turn++) {
                    HalfPel h = new HalfPel();
                    h.setRounding(r);
                    int left = sum;
                    for (int k = 0; k < 4; k++) {
                        h.setPixel(four[(k + turn) % 4], Math.min(left, 255));
                        left -= Math.min(left, 255);
                    }
                    due.answer(h.sample(13, 1), (sum + (r == 0 ? 2 : 1)) / 4, "sum " + sum + ", sample", 13, 1);
                }
            }
        }
    }

    private static void everyPositionOfManyStates(Due due) {
        for (Model state : Inputs.manyStates()) {
            HalfPel h = state.made();
            for (int y2 = 0; y2 <= 2; y2++) {
                for (int x2 = 0; x2 <= 14; x2++) {
                    due.answer(h.sample(x2, y2), state.sample(x2, y2), "sample", x2, y2);
                }
            }
        }
    }

    private static void answersWrittenByHand(Due due) {
        int[] cells = {0, 1, 254, 255, 10, 13, 200, 255, 128, 127, 255, 255, 11, 15, 100, 0};
        int[][] rows = {
            // x2, y2, answer with r = 0, answer with r = 1
            {0, 0, 0, 0}, {14, 0, 255, 255}, {0, 2, 128, 128}, {14, 2, 0, 0}, {6, 2, 255, 255},
            {1, 0, 1, 0}, {3, 0, 128, 127}, {5, 0, 255, 254}, {9, 0, 12, 11}, {13, 0, 228, 227},
            {1, 2, 128, 127}, {5, 2, 255, 255}, {13, 2, 50, 50},
            {0, 1, 64, 64}, {4, 1, 255, 254}, {6, 1, 255, 255}, {8, 1, 11, 10}, {14, 1, 128, 127},
            {1, 1, 64, 64}, {5, 1, 255, 255}, {9, 1, 12, 12}, {13, 1, 139, 139}, {3, 1, 159, 159}
        };
        for (int r = 0; r <= 1; r++) {
            HalfPel h = new Model(cells, r).made();
            for (int[] row : rows) {
                due.answer(h.sample(row[0], row[1]), row[2 + r], "r " + r + ", sample", row[0], row[1]);
            }
        }
    }

    /** Full cells: the sums are 510 or 511 and 1021 or 1022, far beyond a byte. */
    private static void theGreatestSumsDoNotWrap(Due due) {
        for (int r = 0; r <= 1; r++) {
            HalfPel full = new Model(Inputs.same(255), r).made();
            HalfPel half = new Model(Inputs.same(128), r).made();
            for (int y2 = 0; y2 <= 2; y2++) {
                for (int x2 = 0; x2 <= 14; x2++) {
                    due.answer(full.sample(x2, y2), 255, "all cells 255, sample", x2, y2);
                    due.answer(half.sample(x2, y2), 128, "all cells 128, sample", x2, y2);
                }
            }
        }
    }

    private static void alwaysASample(Due due) {
        for (Model state : Inputs.manyStates()) {
            HalfPel h = state.made();
            for (int y2 = 0; y2 <= 2; y2++) {
                for (int x2 = 0; x2 <= 14; x2++) {
                    int answer = h.sample(x2, y2);
                    due.holds(answer >= 0 && answer <= 255, "sample(" + x2 + ", " + y2 + ") = " + answer + " is in 0..255");
                }
            }
        }
    }

    private static void theBitHasNoInfluence(Due due) {
        for (Model state : Inputs.manyStates()) {
            HalfPel h = state.made();
            for (int y2 = 0; y2 <= 2; y2 += 2) {
                for (int x2 = 0; x2 <= 14; x2 += 2) {
                    h.setRounding(0);
                    int answer = h.sample(x2, y2);
                    h.setRounding(1);
                    due.answer(h.sample(x2, y2), answer, "with the bit 1, sample", x2, y2);
                }
            }
        }
    }

    /** Each of the named cells moves the answer, and no other cell does. */
    private static void seesOnly(Due due, int x2, int y2, int... named) {
        for (int i = 0; i < 16; i++) {
            boolean isNamed = false;
            for (int n : named) {
                isNamed |= n == i;
            }
            HalfPel h = new Model(Inputs.same(100), 0).made();
            h.setPixel(i, 140);
            due.answer(h.sample(x2, y2), isNamed ? 100 + 40 / named.length : 100,
                "with cell " + i + " raised, sample", x2, y2);
        }
    }

    private static void nothingChangesByAnAnswer(Due due) {
        for (Model state : Inputs.manyStates()) {
            for (int y2 = 0; y2 <= 2; y2++) {
                for (int x2 = 0; x2 <= 14; x2++) {
                    HalfPel h = state.made();
                    h.sample(x2, y2);
                    due.state(h, state, "sample", x2, y2);
                }
            }
        }
    }

    private static void nothingChangesByARefusal(Due due) {
        for (Model state : Inputs.states()) {
            HalfPel h = state.made();
            for (int x2 : Inputs.outside(0, 14)) {
                for (int y2 : new int[] {Integer.MIN_VALUE, -1, 0, 1, 2, 3, Integer.MAX_VALUE}) {
                    h.sample(x2, y2);
                    due.state(h, state, "sample", x2, y2);
                }
            }
            for (int y2 : Inputs.outside(0, 2)) {
                for (int x2 = 0; x2 <= 14; x2++) {
                    h.sample(x2, y2);
                    due.state(h, state, "sample", x2, y2);
                }
            }
        }
    }
}
