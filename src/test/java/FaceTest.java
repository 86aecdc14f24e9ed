import java.lang.reflect.Constructor;
import java.lang.reflect.Field;
import java.lang.reflect.Member;
import java.lang.reflect.Method;
import java.lang.reflect.Modifier;
import java.util.Set;
import java.util.TreeSet;

/** The public face, and nothing beside it. */
public final class FaceTest {
    private static final Set<String> FACE = Set.of(
            "put(long,int,long,int)void", "delete(long,int)boolean", "get(long,int)long", "keys()int",
            "key(int,int)long", "sync()void", "lose(int)void", "open(boolean)int", "merge(int)boolean",
            "files()int", "file(int,int)int", "octet(int,int,boolean)int", "spoil(int,int,boolean,int)void");

    public static void main(String[] args) {
        Check c = new Check();
        Set<String> found = new TreeSet<>();
        for (Method m : AppendStore.class.getDeclaredMethods()) {
            if (Modifier.isPublic(m.getModifiers())) {
                found.add(signature(m));
                c.is(m.getName() + " is static", Modifier.isStatic(m.getModifiers()), false);
            } else {
                c.is(m.getName() + " is private", isPrivate(m), true);
                c.is(m.getName() + " bears a public name", bearsPublicName(m), false);
            }
        }
        c.is("the face " + found, found.equals(FACE), true);
        for (Field f : AppendStore.class.getDeclaredFields()) {
            c.is(f.getName() + " is private", isPrivate(f), true);
        }
        Constructor<?>[] made = AppendStore.class.getDeclaredConstructors();
        c.is("constructors", made.length, 1);
        c.is("the constructor is public", Modifier.isPublic(made[0].getModifiers()), true);
        c.is("its parameters", made[0].getParameterCount(), 0);
        c.is("the class is final", Modifier.isFinal(AppendStore.class.getModifiers()), true);
        for (Class<?> inside : AppendStore.class.getDeclaredClasses()) {
            c.is(inside.getName() + " is static", Modifier.isStatic(inside.getModifiers()), true);
            c.is(inside.getName() + " is public", Modifier.isPublic(inside.getModifiers()), false);
        }
        c.end();
    }

    private static boolean isPrivate(Member m) {
        return Modifier.isPrivate(m.getModifiers());
    }

    private static boolean bearsPublicName(Method m) {
        return FACE.stream().anyMatch(s -> s.startsWith(m.getName() + "("));
    }

    private static String signature(Method m) {
        StringBuilder text = new StringBuilder(m.getName()).append('(');
        for (Class<?> p : m.getParameterTypes()) {
            text.append(text.charAt(text.length() - 1) == '(' ? "" : ",").append(p.getSimpleName());
        }
        return text.append(')').append(m.getReturnType().getSimpleName()).toString();
    }
}
