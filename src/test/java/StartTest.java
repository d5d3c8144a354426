import java.lang.reflect.Constructor;

/** Promise 1: the constructor and the start. */
public final class StartTest {
    public static void main(String[] args) {
        Due due = new Due();
        due.sentence("HalfPel() takes no arguments and never refuses.");
        theOnlyConstructorTakesNothing(due);
        aHundredThousandObjects(due);
        due.sentence("After it, all 16 cells are 0");
        everyCellIsZero(due);
        due.sentence("and the rounding bit is 0.");
        theBitIsZero(due);
        due.sentence("After it: of each object, whatever was done to others before.");
        objectsShareNothing(due);
        due.end();
    }

    private static void theOnlyConstructorTakesNothing(Due due) {
        Constructor<?>[] all = HalfPel.class.getConstructors();
        due.holds(all.length == 1 && all[0].getParameterCount() == 0, "one public constructor, without arguments");
    }

    private static void aHundredThousandObjects(Due due) {
        for (int n = 0; n < 100000; n++) {
            HalfPel h = new HalfPel();
            due.answer(h.setPixel(n % 16, 255), 0, "setPixel", n % 16, 255);
        }
    }

    private static void everyCellIsZero(Due due) {
        HalfPel h = new HalfPel();
        for (int i = 0; i < 16; i++) {
            due.answer(h.pixel(i), 0, "pixel", i);
        }
        for (int y2 = 0; y2 <= 2; y2++) {
            for (int x2 = 0; x2 <= 14; x2++) {
                due.answer(h.sample(x2, y2), 0, "sample", x2, y2);
            }
        }
        for (int i = 0; i < 16; i++) {
            due.answer(new HalfPel().setPixel(i, 9), 0, "setPixel", i, 9);
        }
    }

    private static void theBitIsZero(Due due) {
        due.answer(new HalfPel().setRounding(0), 0, "setRounding", 0);
        due.answer(new HalfPel().setRounding(1), 0, "setRounding", 1);
        HalfPel h = new HalfPel();
        h.setPixel(0, 1);
        due.answer(h.sample(1, 0), 1, "sample", 1, 0);
    }

    private static void objectsShareNothing(Due due) {
        Model start = new Model(Inputs.same(0), 0);
        Model other = new Model(Inputs.mixed(), 1);
        HalfPel early = new HalfPel();
        HalfPel changed = other.made();
        HalfPel late = new HalfPel();
        due.state(early, start, "the changes of a later object");
        due.state(late, start, "the changes of an earlier object");
        due.state(changed, other, "the making of another object");
    }
}
