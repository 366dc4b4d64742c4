import java.lang.reflect.Constructor;
import java.lang.reflect.Field;
import java.lang.reflect.Method;
import java.lang.reflect.Modifier;
import java.util.Set;
import java.util.TreeSet;

/** The public face is the document's, to the letter, and everything else is private. */
public final class FaceTest {
    private static final Set<String> DUE = Set.of(
        "public static final int RussianDoll.BAD_ARG",
        "public static final int RussianDoll.NONE",
        "public static final int RussianDoll.BARRED",
        "public RussianDoll()",
        "public int RussianDoll.own(int,int,int)",
        "public int RussianDoll.pair(int,int,int)",
        "public int RussianDoll.relate(int,int,int)",
        "public void RussianDoll.clear()",
        "public int RussianDoll.doll(int)",
        "public int RussianDoll.cheapest()",
        "public int RussianDoll.value(int)",
        "public int RussianDoll.with(int,int)",
        "public boolean RussianDoll.settled(int)",
        "public int RussianDoll.second()",
        "public int RussianDoll.zigzag()");

    public static void main(String[] args) {
        Set<String> seen = new TreeSet<>();
        for (Field field : RussianDoll.class.getDeclaredFields()) {
            if (!Modifier.isPrivate(field.getModifiers())) {
                seen.add(field.toString());
            }
        }
        for (Constructor<?> constructor : RussianDoll.class.getDeclaredConstructors()) {
            seen.add(constructor.toString());
        }
        for (Method method : RussianDoll.class.getDeclaredMethods()) {
            if (!Modifier.isPrivate(method.getModifiers())) {
                seen.add(method.toString());
            }
        }
        for (String member : DUE) {
            Checks.due("has " + member, seen.contains(member), true);
        }
        for (String member : seen) {
            Checks.due("may have " + member, DUE.contains(member), true);
        }
        int modifiers = RussianDoll.class.getModifiers();
        Checks.due("public class", Modifier.isPublic(modifiers), true);
        Checks.due("final class", Modifier.isFinal(modifiers), true);
        Checks.due("BAD_ARG", RussianDoll.BAD_ARG, -1);
        Checks.due("NONE", RussianDoll.NONE, -4);
        Checks.due("BARRED", RussianDoll.BARRED, 99);
        Checks.end();
    }
}
