import java.lang.reflect.Constructor;
import java.lang.reflect.Field;
import java.lang.reflect.Method;
import java.lang.reflect.Modifier;
import java.util.Set;
import java.util.TreeSet;

/** The public face: the document's constants, constructor and methods, and nothing else that can be seen. */
public final class FaceTest {
    public static void main(String[] args) {
        constants();
        members();
        Check.end();
    }

    private static void constants() {
        Check.due("FULL", -1, PluralMessages.FULL);
        Check.due("BAD", -2, PluralMessages.BAD);
        Check.due("UNSOUND", -3, PluralMessages.UNSOUND);
        Check.due("TOO_LONG", -4, PluralMessages.TOO_LONG);
    }

    private static void members() {
        Class<?> c = PluralMessages.class;
        Set<String> seen = new TreeSet<>();
        for (Field f : c.getDeclaredFields()) {
            if (!Modifier.isPrivate(f.getModifiers())) {
                seen.add(f.toString());
            }
        }
        for (Constructor<?> k : c.getDeclaredConstructors()) {
            seen.add(k.toString());
        }
        for (Method m : c.getDeclaredMethods()) {
            if (!Modifier.isPrivate(m.getModifiers())) {
                seen.add(m.toString());
            }
        }
        Set<String> want = new TreeSet<>(Set.of(
            "public static final int PluralMessages.FULL",
            "public static final int PluralMessages.BAD",
            "public static final int PluralMessages.UNSOUND",
            "public static final int PluralMessages.TOO_LONG",
            "public PluralMessages(int)",
            "public int PluralMessages.type(char)",
            "public int PluralMessages.rub()",
            "public int PluralMessages.wipe()",
            "public boolean PluralMessages.sound()",
            "public boolean PluralMessages.set(int,int)",
            "public int PluralMessages.format()",
            "public int PluralMessages.length()",
            "public int PluralMessages.charAt(int)",
            "public int PluralMessages.named()",
            "public int PluralMessages.consulted()"));
        Check.due("members", want, seen);
        Check.due("modifiers", Modifier.PUBLIC | Modifier.FINAL, c.getModifiers());
        Check.due("nested classes", 0, c.getDeclaredClasses().length);
    }
}
