import java.lang.reflect.Method;
import java.net.URL;
import java.net.URLClassLoader;
import java.nio.file.Files;
import java.nio.file.Path;
import java.util.Arrays;
import java.util.Comparator;
import java.util.List;
import java.util.Set;
import java.util.TreeSet;
import java.util.regex.Matcher;
import java.util.regex.Pattern;
import java.util.stream.Collectors;
import java.util.stream.Stream;
import javax.tools.ToolProvider;

/**
 * Promise 4: the samples that sample reads. A read leaves no trace in an answer, so the test
 * compiles a copy of the class in which each read of an array goes through ReadLog.
 * The reads must be just the ones named: a read that the copying missed is a failure too.
 * The copying knows reads and plain stores; after cells[i]++ and the like the copy doesn't compile.
 */
public final class SamplesReadTest {
    private static final Pattern ACCESS = Pattern.compile("(?<!new )\\b(\\w+)\\[([^\\[\\]]+)\\](?!\\s*=[^=])");

    public static void main(String[] args) throws Exception {
        Due due = new Due();
        Path directory = Files.createTempDirectory("watched");
        try {
            due.sentence("(the copy of the class whose reads are taken down)");
            Class<?> watched = watchedClass(due, directory);
            due.sentence("Only the samples named in the chosen case may be read.");
            for (int y2 = 0; y2 <= 2; y2++) {
                for (int x2 = 0; x2 <= 14; x2++) {
                    reads(due, watched, x2, y2, named(x2, y2));
                }
            }
            due.sentence("with x2 = 14 the column is 7 and x2 is even, so neither B nor D is read;");
            reads(due, watched, 14, 0, Set.of(7));
            reads(due, watched, 14, 1, Set.of(7, 15));
            reads(due, watched, 14, 2, Set.of(15));
            due.sentence("with y2 = 2 the line is 1 and y2 is even, so neither C nor D is read.");
            for (int x = 0; x <= 7; x++) {
                reads(due, watched, 2 * x, 2, Set.of(8 + x));
            }
            for (int x = 0; x <= 6; x++) {
                reads(due, watched, 2 * x + 1, 2, Set.of(8 + x, 9 + x));
            }
        } finally {
            delete(directory);
        }
        due.end();
    }

    private static Class<?> watchedClass(Due due, Path directory) throws Exception {
        String source = Files.readString(Path.of("src/main/java/HalfPel.java"));
        String code = source.replaceAll("(?s)/\\*.*?\\*/", " ").replaceAll("//[^\n]*", " ");
        Matcher access = ACCESS.matcher(code);
        due.holds(access.find(), "the source has reads of an array");
        String watched = access.replaceAll("ReadLog.at($1, $2)").replaceAll("\\bHalfPel\\b", "WatchedHalfPel");
        Path file = directory.resolve("WatchedHalfPel.java");
        Files.writeString(file, watched);
        int failed = ToolProvider.getSystemJavaCompiler().run(null, null, null,
            "-cp", System.getProperty("java.class.path"), "-d", directory.toString(), file.toString());
        due.answer(failed, 0, "the compiler");
        URLClassLoader loader = new URLClassLoader(new URL[] {directory.toUri().toURL()});
        return loader.loadClass("WatchedHalfPel");
    }

    /** The cells that the table's case names. */
    private static Set<Integer> named(int x2, int y2) {
        int a = y2 / 2 * 8 + x2 / 2;
        boolean oddX2 = x2 % 2 == 1;
        boolean oddY2 = y2 % 2 == 1;
        List<Integer> cells = oddX2 && oddY2 ? Arrays.asList(a, a + 1, a + 8, a + 9)
            : oddX2 ? Arrays.asList(a, a + 1)
            : oddY2 ? Arrays.asList(a, a + 8)
            : Arrays.asList(a);
        return new TreeSet<>(cells);
    }

    private static void reads(Due due, Class<?> watched, int x2, int y2, Set<Integer> cells) throws Exception {
        Method setPixel = watched.getMethod("setPixel", int.class, int.class);
        Method setRounding = watched.getMethod("setRounding", int.class);
        Method sample = watched.getMethod("sample", int.class, int.class);
        for (Model state : Inputs.states()) {
            Object h = watched.getConstructor().newInstance();
            for (int i = 0; i < 16; i++) {
                setPixel.invoke(h, i, state.pixel(i));
            }
            setRounding.invoke(h, state.r);
            ReadLog.READ.clear();
            int answer = (int) sample.invoke(h, x2, y2);
            due.answer(answer, state.sample(x2, y2), "of the copy, sample", x2, y2);
            due.holds(ReadLog.READ.equals(cells),
                "sample(" + x2 + ", " + y2 + ") reads " + ReadLog.READ + ", named are " + cells);
        }
    }

    private static void delete(Path directory) throws Exception {
        try (Stream<Path> walk = Files.walk(directory)) {
            for (Path path : walk.sorted(Comparator.reverseOrder()).collect(Collectors.toList())) {
                Files.delete(path);
            }
        }
    }
}
