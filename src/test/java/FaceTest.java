import java.lang.reflect.Constructor;
import java.lang.reflect.Field;
import java.lang.reflect.Method;
import java.lang.reflect.Modifier;
import java.util.Set;
import java.util.TreeSet;

/** The public face is the document's, and the fields and types keep to LANGUAGE.md. */
public final class FaceTest {
    private static final Set<String> FACE = Set.of(
            "public static final int DimerCounter.BAD_PLACE",
            "public static final int DimerCounter.BAD_WEIGHT",
            "public DimerCounter()",
            "public int DimerCounter.weight(int,int)",
            "public int DimerCounter.all(int)",
            "public void DimerCounter.turn()",
            "public int DimerCounter.force(int,int)",
            "public int DimerCounter.weightOf(int)",
            "public int DimerCounter.total()",
            "public int DimerCounter.totalWith(int)",
            "public int DimerCounter.totalWithBoth(int,int)",
            "public int DimerCounter.possible()",
            "public boolean DimerCounter.canUse(int)",
            "public int DimerCounter.settled()",
            "public int DimerCounter.acrossTotal()");

    public static void main(String[] args) {
        Check check = new Check("FaceTest");
        Class<?> type = DimerCounter.class;
        check.that("the class is public and final",
                Modifier.isPublic(type.getModifiers()) && Modifier.isFinal(type.getModifiers()));
        check.that("no nested class", type.getDeclaredClasses().length == 0);
        Set<String> found = membersNotPrivate(type);
        check.that("the face is the document's, not " + found, found.equals(FACE));
        check.that("no private method bears a public one's name", namesAreApart(type));
        for (Field field : type.getDeclaredFields()) {
            check.that(field + " has a type of rule 2", isPlain(field.getType()));
            check.that(field + ", if static, is a constant of rule 5", !Modifier.isStatic(field.getModifiers())
                    || Modifier.isFinal(field.getModifiers())
                    && (field.getType() == int.class || field.getType() == long.class));
        }
        for (Method method : type.getDeclaredMethods()) {
            check.that(method + " has at most seven parameters", method.getParameterCount() <= 7);
            check.that(method + " answers no array", !method.getReturnType().isArray());
        }
        check.sentence("LANGUAGE.md, rule 7", "No call may ever throw or fail to end",
                () -> noCallThrows(check));
        check.end();
    }

    /** The rule holds past the 512th call, too, where the answers are free. */
    private static void noCallThrows(Check check) {
        int[] numbers = {Integer.MIN_VALUE, -65536, -32, -1, 0, 4, 5, 11, 12, 15, 16, 23, 24, 32, 65536,
            Integer.MAX_VALUE};
        DimerCounter x = new DimerCounter();
        for (int a : numbers) {
            for (int b : numbers) {
                x.weight(a, b);
                x.force(a, b);
                x.totalWithBoth(a, b);
            }
            x.all(a);
            x.weightOf(a);
            x.totalWith(a);
            x.canUse(a);
            x.turn();
            x.total();
            x.possible();
            x.settled();
            x.acrossTotal();
        }
        check.that("every call has come to its end", true);
    }

    private static Set<String> membersNotPrivate(Class<?> type) {
        Set<String> found = new TreeSet<>();
        for (Field field : type.getDeclaredFields()) {
            if (!Modifier.isPrivate(field.getModifiers())) {
                found.add(field.toString());
            }
        }
        for (Constructor<?> constructor : type.getDeclaredConstructors()) {
            found.add(constructor.toString());
        }
        for (Method method : type.getDeclaredMethods()) {
            if (!Modifier.isPrivate(method.getModifiers())) {
                found.add(method.toString());
            }
        }
        return found;
    }

    private static boolean namesAreApart(Class<?> type) {
        for (Method one : type.getDeclaredMethods()) {
            for (Method other : type.getDeclaredMethods()) {
                if (Modifier.isPrivate(one.getModifiers()) && Modifier.isPublic(other.getModifiers())
                        && one.getName().equals(other.getName())) {
                    return false;
                }
            }
        }
        return true;
    }

    private static boolean isPlain(Class<?> type) {
        Class<?> base = type.isArray() ? type.getComponentType() : type;
        return base.isPrimitive() && base != float.class && base != double.class;
    }
}
