import java.io.DataInputStream;
import java.io.IOException;
import java.io.InputStream;
import java.lang.reflect.Field;
import java.lang.reflect.Modifier;
import java.nio.file.Files;
import java.nio.file.Path;
import java.util.Arrays;
import java.util.HashMap;
import java.util.HashSet;
import java.util.Map;
import java.util.Set;
import java.util.TreeSet;
import java.util.regex.Matcher;
import java.util.regex.Pattern;

/** The section "The public face": the limits on the class, seen in its source and in its class file. */
public final class LimitsTest {
    private static final Set<String> NUMBER_TYPES = Set.of("int", "long", "short", "byte", "char");
    private static final Pattern MADE_IN_A_FIELD =
        Pattern.compile("    private final \\w+\\[\\] \\w+ = new \\w+\\[(?:[1-9]\\d*|[A-Z][A-Z0-9_]*)\\];");
    private static final Pattern CAST = Pattern.compile("\\(\\s*(\\w+(?:\\s*\\[\\s*\\])*)\\s*\\)\\s*[\\w(]");
    private static final Pattern REAL_NUMBER =
        Pattern.compile("\\b\\d+\\.|\\.\\d|\\b\\d+[eE][+-]?\\d|\\b\\d[\\d_]*[fFdD]\\b|\\b0[xX][\\w.]*[pP]");
    private static final Pattern METHOD =
        Pattern.compile("(?s)\n    (?:public|private)[\\w\\s\\[\\]]*? (\\w+)\\([^)]*\\) \\{(.*?)\n    \\}");

    public static void main(String[] args) throws Exception {
        Due due = new Due();
        String source = Files.readString(Path.of("src/main/java/HalfPel.java"));
        String code = source.replaceAll("(?s)/\\*.*?\\*/", " ").replaceAll("//[^\n]*", " ");
        due.sentence("it is plain, self-contained Java and uses no class but itself "
            + "(no JDK class, not even Math or String).");
        classesNamedInTheClassFile(due);
        noClassNamedInTheSource(due, code);
        due.sentence("Arrays are primitive and one-dimensional,");
        fieldsArePrimitive(due);
        due.holds(!Pattern.compile("\\]\\s*\\[").matcher(code).find(), "no array has a second dimension");
        due.sentence("created only in the constructor or a field initialiser, with the length written as a literal "
            + "or a static final constant. Nothing is created inside a method.");
        madeInFieldsAlone(due, code);
        due.sentence("There is no throw, try or catch, no assert, no synchronized,");
        isWithout(due, code, "throw", "throws", "try", "catch", "finally", "assert", "synchronized");
        due.sentence("no cast of a reference, no instanceof,");
        castsAreOfNumbers(due, code);
        isWithout(due, code, "instanceof");
        due.sentence("no float or double,");
        isWithout(due, code, "float", "double", "strictfp");
        due.holds(!REAL_NUMBER.matcher(code).find(), "no number with a fraction or an exponent");
        due.sentence("and no recursion.");
        noMethodComesBackToItself(due, code);
        due.sentence("There is no static field except compile-time constants of int or long, and no static initialiser.");
        staticFieldsAreConstants(due);
        due.end();
    }

    /** Object is there as what every class extends and every constructor calls. */
    private static void classesNamedInTheClassFile(Due due) throws IOException {
        Set<String> named = new TreeSet<>();
        for (Object[] entry : constants()) {
            if (entry != null && entry[0].equals(7)) {
                named.add((String) constants()[(int) entry[1]][1]);
            }
        }
        due.holds(named.equals(Set.of("HalfPel", "java/lang/Object")), "HalfPel and Object alone are named: " + named);
    }

    private static void noClassNamedInTheSource(Due due, String code) {
        isWithout(due, code, "import", "package", "java", "extends", "implements", "null", "var");
        isWithout(due, code, "clone", "equals", "finalize", "getClass", "hashCode", "notify", "notifyAll", "toString", "wait");
        due.holds(code.indexOf('"') < 0, "no text, which would be a String");
        due.holds(!code.contains("->") && !code.contains("::"), "no lambda and no method reference");
        for (String word : words(code)) {
            due.holds(word.equals("HalfPel") || !word.matches("[A-Z]\\w*[a-z]\\w*"), "no class " + word);
        }
    }

    private static void fieldsArePrimitive(Due due) {
        for (Field f : HalfPel.class.getDeclaredFields()) {
            Class<?> type = f.getType();
            Class<?> plain = type.isArray() ? type.getComponentType() : type;
            due.holds(plain.isPrimitive(), f + " is of a primitive type or a line of it");
        }
    }

    /** The document would allow the constructor too; the class has no need of it. */
    private static void madeInFieldsAlone(Due due, String code) {
        for (String line : code.split("\n")) {
            due.holds(!words(line).contains("new") || MADE_IN_A_FIELD.matcher(line).matches(),
                "what is made is an array in a field's initialiser: " + line.trim());
            due.holds(!line.matches(".*(=|\\])\\s*\\{.*"), "no array is made by braces: " + line.trim());
        }
    }

    private static void castsAreOfNumbers(Due due, String code) {
        Matcher cast = CAST.matcher(code);
        int casts = 0;
        while (cast.find()) {
            due.holds(NUMBER_TYPES.contains(cast.group(1)), "a cast to a number type: " + cast.group());
            casts++;
        }
        due.holds(casts > 0, "the casts are found, as setPixel narrows with one");
    }

    /** Takes away, again and again, the methods that call none of those left; a circle stays. */
    private static void noMethodComesBackToItself(Due due, String code) {
        Map<String, Set<String>> left = new HashMap<>();
        Matcher method = METHOD.matcher(code);
        while (method.find()) {
            left.computeIfAbsent(method.group(1), name -> new HashSet<>()).addAll(words(method.group(2)));
        }
        due.holds(left.size() == methodNames().size() + 1, "every method and the constructor is found: " + left.keySet());
        due.holds(left.keySet().containsAll(methodNames()), "every method is found: " + left.keySet());
        while (left.values().removeIf(words -> words.stream().noneMatch(left::containsKey))) {
            continue;
        }
        due.holds(left.isEmpty(), "no method comes back to itself: " + left.keySet());
    }

    private static Set<String> methodNames() {
        Set<String> names = new HashSet<>();
        Arrays.stream(HalfPel.class.getDeclaredMethods()).forEach(m -> names.add(m.getName()));
        return names;
    }

    /** A static field that isn't a compile-time constant needs a static initialiser, which is named so. */
    private static void staticFieldsAreConstants(Due due) throws IOException {
        for (Field f : HalfPel.class.getDeclaredFields()) {
            if (Modifier.isStatic(f.getModifiers())) {
                boolean whole = f.getType() == int.class || f.getType() == long.class;
                due.holds(Modifier.isFinal(f.getModifiers()) && whole, f + " is a constant of int or long");
            }
        }
        for (Object[] entry : constants()) {
            due.holds(entry == null || !"<clinit>".equals(entry[1]), "no static initialiser");
        }
    }

    private static void isWithout(Due due, String code, String... banned) {
        Set<String> words = words(code);
        for (String word : banned) {
            due.holds(!words.contains(word), "the source is without " + word);
        }
    }

    private static Set<String> words(String code) {
        Set<String> words = new HashSet<>();
        Matcher word = Pattern.compile("\\w+").matcher(code);
        while (word.find()) {
            words.add(word.group());
        }
        return words;
    }

    /** The class file's table of constants: each with its tag, and its text or the index that it bears. */
    private static Object[][] constants() throws IOException {
        try (InputStream file = HalfPel.class.getResourceAsStream("HalfPel.class");
                DataInputStream in = new DataInputStream(file)) {
            in.skipBytes(8);
            Object[][] all = new Object[in.readUnsignedShort()][];
            for (int n = 1; n < all.length; n++) {
                int tag = in.readUnsignedByte();
                all[n] = new Object[] {tag, constant(in, tag)};
                // A long or a double takes two places.
                n += tag == 5 || tag == 6 ? 1 : 0;
            }
            return all;
        }
    }

    private static Object constant(DataInputStream in, int tag) throws IOException {
        switch (tag) {
            case 1:
                return in.readUTF();
            case 5:
            case 6:
                return in.readLong();
            case 7:
            case 8:
            case 16:
            case 19:
            case 20:
                return in.readUnsignedShort();
            case 15:
                in.readUnsignedByte();
                return in.readUnsignedShort();
            default:
                return in.readInt();
        }
    }
}
