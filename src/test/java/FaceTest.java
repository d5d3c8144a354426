import java.lang.reflect.Constructor;
import java.lang.reflect.Field;
import java.lang.reflect.Member;
import java.lang.reflect.Method;
import java.lang.reflect.Modifier;
import java.nio.file.Files;
import java.nio.file.Path;
import java.util.Arrays;
import java.util.HashSet;
import java.util.Set;
import java.util.TreeSet;
import java.util.regex.Matcher;
import java.util.regex.Pattern;

/** The section "The public face": the class's members and its limits. */
public final class FaceTest {
    private static final Set<String> BANNED_WORDS = new HashSet<>(Arrays.asList((
        "import package java float double var null throw throws try catch synchronized assert instanceof "
        + "enum record interface protected").split(" ")));
    private static final Pattern CLASS_NAME = Pattern.compile("[A-Z]\\w*[a-z]\\w*");
    private static final Pattern MADE_IN_A_FIELD =
        Pattern.compile("    private final \\w+\\[\\] \\w+ = new \\w+\\[\\w+\\];");

    public static void main(String[] args) throws Exception {
        Due due = new Due();
        due.sentence("public final class HalfPel");
        theClassItself(due);
        due.sentence("There are no public constants.");
        due.holds(HalfPel.class.getFields().length == 0, "no public field");
        due.sentence("The class has no public, protected or package-visible member beyond these.");
        theVisibleMembers(due);
        due.sentence("Limits on the class: no static field except compile-time constants, primitive arrays.");
        theFields(due);
        due.sentence("Limits on the class: no class but itself, and no statement that the limits rule out.");
        theSource(due);
        due.end();
    }

    private static void theClassItself(Due due) {
        int modifiers = HalfPel.class.getModifiers();
        due.holds(Modifier.isPublic(modifiers), "public");
        due.holds(Modifier.isFinal(modifiers), "final");
        due.holds(HalfPel.class.getSuperclass() == Object.class, "extends nothing");
        due.holds(HalfPel.class.getInterfaces().length == 0, "implements nothing");
        due.holds(HalfPel.class.getDeclaredClasses().length == 0, "no nested class");
    }

    private static void theVisibleMembers(Due due) {
        Set<String> seen = new TreeSet<>();
        for (Constructor<?> c : HalfPel.class.getDeclaredConstructors()) {
            addVisible(seen, c, c.toString());
        }
        for (Method m : HalfPel.class.getDeclaredMethods()) {
            addVisible(seen, m, m.toString());
        }
        for (Field f : HalfPel.class.getDeclaredFields()) {
            addVisible(seen, f, f.toString());
        }
        Set<String> want = new TreeSet<>(Arrays.asList(
            "public HalfPel()",
            "public int HalfPel.setPixel(int,int)",
            "public int HalfPel.setRounding(int)",
            "public int HalfPel.sample(int,int)",
            "public int HalfPel.pixel(int)"));
        due.holds(seen.equals(want), "the visible members are " + want + ", seen: " + seen);
    }

    private static void addVisible(Set<String> seen, Member member, String text) {
        if (!Modifier.isPrivate(member.getModifiers())) {
            seen.add(text);
        }
    }

    private static void theFields(Due due) {
        for (Field f : HalfPel.class.getDeclaredFields()) {
            Class<?> type = f.getType();
            if (Modifier.isStatic(f.getModifiers())) {
                due.holds(Modifier.isFinal(f.getModifiers()) && (type == int.class || type == long.class),
                    f + " is a constant of int or long");
            }
            Class<?> plain = type.isArray() ? type.getComponentType() : type;
            due.holds(plain.isPrimitive(), f + " is of a primitive type or a line of it");
        }
    }

    private static void theSource(Due due) throws Exception {
        String source = Files.readString(Path.of("src/main/java/HalfPel.java"));
        String code = source.replaceAll("(?s)/\\*.*?\\*/", " ").replaceAll("//[^\n]*", " ");
        Matcher word = Pattern.compile("\\w+").matcher(code);
        while (word.find()) {
            due.holds(!BANNED_WORDS.contains(word.group()), "the source is without " + word.group());
            due.holds(word.group().equals("HalfPel") || !CLASS_NAME.matcher(word.group()).matches(),
                "the source is without the class " + word.group());
        }
        due.holds(!code.contains("->") && !code.contains("::"), "the source is without lambdas");
        for (String line : code.split("\n")) {
            due.holds(!line.matches(".*\\bnew\\b.*") || MADE_IN_A_FIELD.matcher(line).matches(),
                "what is made is an array in a field's initialiser: " + line.trim());
        }
    }
}
