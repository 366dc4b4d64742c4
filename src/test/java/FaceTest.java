import java.lang.reflect.Constructor;
import java.lang.reflect.Field;
import java.lang.reflect.Method;
import java.lang.reflect.Modifier;
import java.util.Set;
import java.util.TreeSet;

/** The public face is the document's, to the letter, and nothing else is visible. */
public final class FaceTest {
    private static final Set<String> DUE = Set.of(
        "public static final int RussianDoll.BAD_ARG",
        "public static final int RussianDoll.NONE",
        "public static final int RussianDoll.BARRED",
        "public RussianDoll()",
        "public int RussianDoll.own(int,int,int)",
        "public int RussianDoll.pair(int,int,int)",
        "public int RussianDoll.relate(int,int,int)",
        "public void RussianDoll.clear()",
        "public int RussianDoll.doll(int)",
        "public int RussianDoll.cheapest()",
        "public int RussianDoll.value(int)",
        "public int RussianDoll.with(int,int)",
        "public boolean RussianDoll.settled(int)",
        "public int RussianDoll.second()",
        "public int RussianDoll.zigzag()");

    private static Set<String> visibleMembers() {
        Set<String> seen = new TreeSet<>();
        for (Field field : RussianDoll.class.getDeclaredFields()) {
            if (!Modifier.isPrivate(field.getModifiers())) {
                seen.add(field.toString());
            }
        }
        for (Constructor<?> constructor : RussianDoll.class.getDeclaredConstructors()) {
            seen.add(constructor.toString());
        }
        for (Method method : RussianDoll.class.getDeclaredMethods()) {
            if (!Modifier.isPrivate(method.getModifiers())) {
                seen.add(method.toString());
            }
        }
        return seen;
    }

    private static void members() {
        Set<String> seen = visibleMembers();
        for (String member : DUE) {
            Checks.due("has " + member, seen.contains(member), true);
        }
        for (String member : seen) {
            Checks.due("may have " + member, DUE.contains(member), true);
        }
    }

    private static void theClassItself() {
        Class<?> face = RussianDoll.class;
        Checks.due("public class", Modifier.isPublic(face.getModifiers()), true);
        Checks.due("final class", Modifier.isFinal(face.getModifiers()), true);
        Checks.due("no package", face.getPackageName().isEmpty(), true);
        Checks.due("extends nothing", face.getSuperclass() == Object.class, true);
        Checks.due("implements nothing", face.getInterfaces().length, 0);
        Checks.due("no type parameters", face.getTypeParameters().length, 0);
        Checks.due("no classes inside", face.getDeclaredClasses().length, 0);
    }

    private static void constants() {
        Checks.due("BAD_ARG", RussianDoll.BAD_ARG, -1);
        Checks.due("NONE", RussianDoll.NONE, -4);
        Checks.due("BARRED", RussianDoll.BARRED, 99);
    }

    /** A case label takes a constant only if the compiler knows its value, as the code block gives it. */
    private static String nameOf(int code) {
        switch (code) {
            case RussianDoll.BAD_ARG:
                return "BAD_ARG";
            case RussianDoll.NONE:
                return "NONE";
            case RussianDoll.BARRED:
                return "BARRED";
            default:
                return "";
        }
    }

    private static void constantsAsCaseLabels() {
        Checks.due("-1 is BAD_ARG", nameOf(-1).equals("BAD_ARG"), true);
        Checks.due("-4 is NONE", nameOf(-4).equals("NONE"), true);
        Checks.due("99 is BARRED", nameOf(99).equals("BARRED"), true);
    }

    public static void main(String[] args) {
        Checks.test("the members", FaceTest::members);
        Checks.test("the class itself", FaceTest::theClassItself);
        Checks.test("the constants", FaceTest::constants);
        Checks.test("the constants as case labels", FaceTest::constantsAsCaseLabels);
        Checks.end();
    }
}
