import java.lang.reflect.Constructor;
import java.lang.reflect.Field;
import java.lang.reflect.Member;
import java.lang.reflect.Method;
import java.lang.reflect.Modifier;
import java.nio.file.Files;
import java.nio.file.Path;
import java.util.Arrays;
import java.util.HashSet;
import java.util.Set;
import java.util.TreeSet;
import java.util.regex.Matcher;
import java.util.regex.Pattern;

/** The sections "What it is" and "The public face": the class's members and its limits. */
public final class FaceTest {
    private static final Set<String> BANNED_WORDS = new HashSet<>(Arrays.asList((
        "import package float double String Math Integer System Arrays Object null throw throws try catch "
        + "synchronized assert instanceof enum record interface protected").split(" ")));

    public static void main(String[] args) throws Exception {
        Due due = new Due();
        theClassItself(due);
        theVisibleMembers(due);
        theFields(due);
        theSource(due);
        anyCallsInAnyOrderAnswer(due);
        due.end();
    }

    private static void theClassItself(Due due) {
        int modifiers = HalfPel.class.getModifiers();
        due.holds("public", Modifier.isPublic(modifiers));
        due.holds("final", Modifier.isFinal(modifiers));
        due.holds("extends nothing", HalfPel.class.getSuperclass() == Object.class);
        due.holds("implements nothing", HalfPel.class.getInterfaces().length == 0);
        due.holds("no nested class", HalfPel.class.getDeclaredClasses().length == 0);
    }

    private static void theVisibleMembers(Due due) {
        Set<String> seen = new TreeSet<>();
        for (Constructor<?> c : HalfPel.class.getDeclaredConstructors()) {
            addVisible(seen, c, c.toString());
        }
        for (Method m : HalfPel.class.getDeclaredMethods()) {
            addVisible(seen, m, m.toString());
        }
        for (Field f : HalfPel.class.getDeclaredFields()) {
            addVisible(seen, f, f.toString());
        }
        Set<String> want = new TreeSet<>(Arrays.asList(
            "public HalfPel()",
            "public int HalfPel.setPixel(int,int)",
            "public int HalfPel.setRounding(int)",
            "public int HalfPel.sample(int,int)",
            "public int HalfPel.pixel(int)"));
        due.holds("the visible members are " + want + ", seen: " + seen, seen.equals(want));
    }

    private static void addVisible(Set<String> seen, Member member, String text) {
        if (!Modifier.isPrivate(member.getModifiers())) {
            seen.add(text);
        }
    }

    private static void theFields(Due due) {
        for (Field f : HalfPel.class.getDeclaredFields()) {
            Class<?> type = f.getType();
            if (Modifier.isStatic(f.getModifiers())) {
                due.holds(f + " is a constant of int or long",
                    Modifier.isFinal(f.getModifiers()) && (type == int.class || type == long.class));
            }
            Class<?> plain = type.isArray() ? type.getComponentType() : type;
            due.holds(f + " is of a primitive type or a line of it", plain.isPrimitive());
        }
    }

    private static void theSource(Due due) throws Exception {
        String source = Files.readString(Path.of("src/main/java/HalfPel.java"));
        String code = source.replaceAll("(?s)/\\*.*?\\*/", " ").replaceAll("//[^\n]*", " ");
        Matcher word = Pattern.compile("\\w+").matcher(code);
        while (word.find()) {
            due.holds("the source is without " + word.group(), !BANNED_WORDS.contains(word.group()));
        }
        due.holds("the source is without lambdas", !code.contains("->") && !code.contains("::"));
    }

    /** A long run on one object beside a plain model of it: each call meets many states. */
    private static void anyCallsInAnyOrderAnswer(Due due) {
        HalfPel h = new HalfPel();
        int[] cells = new int[16];
        int r = 0;
        int state = 20261115;
        for (int n = 0; n < 200000; n++) {
            state = state * 1103515245 + 12345;
            int i = (state >>> 8 & 31) - 8;
            int v = state >> 3;
            boolean isCell = i >= 0 && i <= 15;
            switch (state >>> 29) {
                case 0:
                    due.answer("call " + n + ", setRounding(" + v + ")", h.setRounding(v), r);
                    r = v & 1;
                    break;
                case 1:
                case 2:
                    due.answer("call " + n + ", pixel(" + i + ")", h.pixel(i), isCell ? cells[i] : -1);
                    break;
                case 3:
                case 4: {
                    int y2 = (state >>> 16 & 7) - 2;
                    int got = h.sample(i, y2);
                    boolean inside = i >= 0 && i <= 14 && y2 >= 0 && y2 <= 2;
                    due.holds("call " + n + ", sample(" + i + ", " + y2 + ") = " + got + " is in its range",
                        inside ? got >= 0 && got <= 255 : got == -1);
                    break;
                }
                default:
                    due.answer("call " + n + ", setPixel(" + i + ", " + v + ")",
                        h.setPixel(i, v), isCell ? cells[i] : -1);
                    if (isCell) {
                        cells[i] = v & 255;
                    }
            }
        }
        due.state("after the run", h, cells, r);
    }
}
