import java.util.Arrays;

/**
 * Counts and prints the answers that are not as due, each under the sentence of the document
 * that asks for it. Every test of the project uses it.
 */
final class Due {
    /** Far above what a whole test needs; it turns a call that never returns into a failure. */
    private static final int LIMIT_MILLIS = 120000;

    private volatile String sentence = null;
    private int looks = 0;
    private int wrong = 0;

    Due() {
        Thread.setDefaultUncaughtExceptionHandler(this::failAsThrown);
        Thread watch = new Thread(this::failIfStillRunning);
        watch.setDaemon(true);
        watch.start();
    }

    private void failIfStillRunning() {
        try {
            Thread.sleep(LIMIT_MILLIS);
        } catch (InterruptedException e) {
            return;
        }
        System.out.println("[" + sentence + "] a call has not returned");
        System.out.flush();
        Runtime.getRuntime().halt(1);
    }

    private void failAsThrown(Thread thread, Throwable thrown) {
        report("threw " + thrown);
        thrown.printStackTrace(System.out);
        System.out.flush();
        Runtime.getRuntime().halt(1);
    }

    /** What follows holds the class to these words of the document. */
    void sentence(String words) {
        endOfSentence();
        sentence = words;
        looks = 0;
    }

    void answer(int got, int want, String method, int... args) {
        looks++;
        if (got != want) {
            report(call(method, args) + " answered " + got + ", due is " + want);
        }
    }

    void holds(boolean is, String claim) {
        looks++;
        if (!is) {
            report("does not hold: " + claim);
        }
    }

    /** The whole state, as the public methods show it after the call named; it is left as it was. */
    void state(HalfPel h, Model model, String method, int... args) {
        for (int i = 0; i < 16; i++) {
            stateAnswer(h.pixel(i), model.pixel(i), "pixel(" + i + ")", method, args);
        }
        for (int y2 = 0; y2 <= 2; y2++) {
            for (int x2 = 0; x2 <= 14; x2++) {
                stateAnswer(h.sample(x2, y2), model.sample(x2, y2), "a sample", method, args);
            }
        }
        stateAnswer(h.setRounding(model.r), model.r, "the rounding bit", method, args);
    }

    private void stateAnswer(int got, int want, String what, String method, int[] args) {
        looks++;
        if (got != want) {
            report("after " + call(method, args) + ", " + what + " is " + got + ", due is " + want);
        }
    }

    void end() {
        endOfSentence();
        System.out.println(wrong == 0 ? "all answers are as due" : wrong + " answers are not as due");
        if (wrong != 0) {
            System.exit(1);
        }
    }

    /** A sentence that nothing was held to would pass unseen. */
    private void endOfSentence() {
        if (sentence != null && looks == 0) {
            report("nothing was tested");
        }
    }

    private void report(String text) {
        wrong++;
        System.out.println("[" + sentence + "] " + text);
    }

    private static String call(String method, int[] args) {
        String list = Arrays.toString(args);
        return method + "(" + list.substring(1, list.length() - 1) + ")";
    }
}
