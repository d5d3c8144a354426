/** Counts and prints the answers that are not as due; every test of the project uses it. */
final class Due {
    static final int[] EDGE_INTS = {
        Integer.MIN_VALUE, Integer.MIN_VALUE + 1, -65536, -257, -256, -255, -129, -128, -127, -2, -1,
        0, 1, 2, 3, 7, 8, 127, 128, 129, 254, 255, 256, 257, 511, 65535, 65536,
        Integer.MAX_VALUE - 1, Integer.MAX_VALUE
    };
    static final int[] NO_CELL = {
        Integer.MIN_VALUE, Integer.MIN_VALUE + 1, -256, -17, -16, -15, -2, -1,
        16, 17, 24, 31, 32, 255, 256, 65536, Integer.MAX_VALUE - 1, Integer.MAX_VALUE
    };

    private int wrong = 0;

    void answer(String call, int got, int want) {
        if (got != want) {
            wrong++;
            System.out.println(call + " answered " + got + ", due is " + want);
        }
    }

    void holds(String claim, boolean is) {
        if (!is) {
            wrong++;
            System.out.println("does not hold: " + claim);
        }
    }

    /** The whole state, as the public methods show it; the object is left as it was. */
    void state(String when, HalfPel h, int[] cells, int rounding) {
        for (int i = 0; i < 16; i++) {
            answer(when + ": pixel(" + i + ")", h.pixel(i), cells[i]);
        }
        answer(when + ": setRounding(" + rounding + ")", h.setRounding(rounding), rounding);
    }

    void end() {
        System.out.println(wrong == 0 ? "all answers are as due" : wrong + " answers are not as due");
        if (wrong != 0) {
            System.exit(1);
        }
    }

    static HalfPel filled(int[] cells, int rounding) {
        HalfPel h = new HalfPel();
        for (int i = 0; i < 16; i++) {
            h.setPixel(i, cells[i]);
        }
        h.setRounding(rounding);
        return h;
    }

    /** Sixteen different samples, small and great ones side by side. */
    static int[] mixedCells() {
        return new int[] {0, 255, 1, 254, 127, 128, 129, 3, 200, 17, 255 - 17, 66, 99, 130, 5, 253};
    }
}
