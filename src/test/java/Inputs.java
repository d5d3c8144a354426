import java.util.ArrayList;
import java.util.Arrays;
import java.util.List;
import java.util.TreeSet;

/** Arguments and states at the edges, and a great many ordinary ones. */
final class Inputs {
    private Inputs() {
    }

    /** The least and the greatest int, all the powers of two and their neighbours, the small ones. */
    static List<Integer> ints() {
        TreeSet<Integer> all = new TreeSet<>();
        for (int bit = 0; bit < 32; bit++) {
            for (int by = -2; by <= 2; by++) {
                all.add((1 << bit) + by);
                all.add(-(1 << bit) + by);
            }
        }
        for (int n = -40; n <= 40; n++) {
            all.add(n);
            all.add(256 + n);
            all.add(65536 + n);
            all.add(Integer.MIN_VALUE + 40 + n);
        }
        return new ArrayList<>(all);
    }

    static List<Integer> below(int least) {
        List<Integer> found = ints();
        found.removeIf(n -> n >= least);
        return found;
    }

    static List<Integer> above(int greatest) {
        List<Integer> found = ints();
        found.removeIf(n -> n <= greatest);
        return found;
    }

    static List<Integer> outside(int least, int greatest) {
        List<Integer> found = below(least);
        found.addAll(above(greatest));
        return found;
    }

    /** The empty and the full state and others at the edges, each with both rounding bits. */
    static List<Model> states() {
        List<Model> all = new ArrayList<>();
        for (int r = 0; r <= 1; r++) {
            all.add(new Model(same(0), r));
            all.add(new Model(same(255), r));
            all.add(new Model(same(127), r));
            all.add(new Model(same(128), r));
            all.add(new Model(mixed(), r));
        }
        return all;
    }

    /** States as they come, a fifth of them with extreme samples alone. */
    static List<Model> manyStates() {
        List<Model> all = states();
        for (int seed = 0; seed < 500; seed++) {
            all.add(new Model(cellsOf(seed), seed % 2));
        }
        return all;
    }

    static int[] same(int v) {
        int[] cells = new int[16];
        Arrays.fill(cells, v);
        return cells;
    }

    /** Sixteen different samples, small and great ones side by side. */
    static int[] mixed() {
        return new int[] {0, 255, 1, 254, 127, 128, 129, 3, 200, 17, 238, 66, 99, 130, 5, 253};
    }

    private static int[] cellsOf(int seed) {
        int[] cells = new int[16];
        int state = seed * 40503 + 1;
        for (int i = 0; i < 16; i++) {
            state = state * 1103515245 + 12345;
            int v = state >>> 16 & 255;
            cells[i] = seed % 5 != 0 ? v : v < 128 ? v & 1 : 254 | v & 1;
        }
        return cells;
    }
}
