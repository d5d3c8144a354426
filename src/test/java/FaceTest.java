import java.lang.reflect.Constructor;
import java.lang.reflect.Field;
import java.lang.reflect.Member;
import java.lang.reflect.Method;
import java.lang.reflect.Modifier;
import java.util.Arrays;
import java.util.Set;
import java.util.TreeSet;

/** The section "The public face": the class and its visible members. */
public final class FaceTest {
    public static void main(String[] args) {
        Due due = new Due();
        due.sentence("public final class HalfPel");
        theClassItself(due);
        due.sentence("There are no public constants.");
        due.holds(HalfPel.class.getFields().length == 0, "no public field");
        due.sentence("The class has no public, protected or package-visible member beyond these.");
        theVisibleMembers(due);
        due.end();
    }

    private static void theClassItself(Due due) {
        int modifiers = HalfPel.class.getModifiers();
        due.holds(Modifier.isPublic(modifiers), "public");
        due.holds(Modifier.isFinal(modifiers), "final");
        due.holds(HalfPel.class.getSuperclass() == Object.class, "extends nothing");
        due.holds(HalfPel.class.getInterfaces().length == 0, "implements nothing");
        due.holds(HalfPel.class.getDeclaredClasses().length == 0, "no nested class");
    }

    private static void theVisibleMembers(Due due) {
        Set<String> seen = new TreeSet<>();
        for (Constructor<?> c : HalfPel.class.getDeclaredConstructors()) {
            addVisible(seen, c, c.toString());
        }
        for (Method m : HalfPel.class.getDeclaredMethods()) {
            addVisible(seen, m, m.toString());
        }
        for (Field f : HalfPel.class.getDeclaredFields()) {
            addVisible(seen, f, f.toString());
        }
        Set<String> want = new TreeSet<>(Arrays.asList(
            "public HalfPel()",
            "public int HalfPel.setPixel(int,int)",
            "public int HalfPel.setRounding(int)",
            "public int HalfPel.sample(int,int)",
            "public int HalfPel.pixel(int)"));
        due.holds(seen.equals(want), "the visible members are " + want + ", seen: " + seen);
    }

    private static void addVisible(Set<String> seen, Member member, String text) {
        if (!Modifier.isPrivate(member.getModifiers())) {
            seen.add(text);
        }
    }
}
