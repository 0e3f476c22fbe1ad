import java.lang.reflect.Constructor;
import java.lang.reflect.Field;
import java.lang.reflect.Method;
import java.lang.reflect.Modifier;
import java.util.Arrays;
import java.util.HashSet;
import java.util.Set;
import java.util.TreeSet;

/** The public face of the document, and rules 1, 2 and 5 of LANGUAGE.md as far as they are about members. */
public final class FaceTest {
    private static final Set<String> FACE = Set.of(
            "int derive(int, int)", "int define(int, int, int, int)", "int token(int, int)", "int clear()",
            "int advise(int)", "int drop()", "int call(int)", "int giveBack()", "int unwind()", "int depth()",
            "int methodAt(int)", "int holds(int, int)", "int given()", "int count(int)", "int last(int)",
            "int wouldHold(int, int)", "int would(int)");

    private static final Set<Class<?>> TYPES = Set.of(int.class, long.class, short.class, byte.class, char.class,
            boolean.class, int[].class, long[].class, short[].class, byte[].class, char[].class, boolean[].class);

    public static void main(String[] args) {
        Class<CallAdvice> c = CallAdvice.class;
        Check.that("the class is public", Modifier.isPublic(c.getModifiers()));
        Check.that("the class is final", Modifier.isFinal(c.getModifiers()));
        Check.that("the class extends Object alone", c.getSuperclass() == Object.class);
        Check.due("interfaces", 0, c.getInterfaces().length);
        Check.due("nested classes", 0, c.getDeclaredClasses().length);
        constructors(c.getDeclaredConstructors());
        methods(c.getDeclaredMethods());
        fields(c.getDeclaredFields());
        Check.end();
    }

    private static void constructors(Constructor<?>[] all) {
        Check.due("constructors", 1, all.length);
        Check.that("the constructor is public", Modifier.isPublic(all[0].getModifiers()));
        Check.due("its parameters", 0, all[0].getParameterCount());
    }

    private static void methods(Method[] all) {
        Set<String> open = new TreeSet<>();
        Set<String> openNames = new HashSet<>();
        Set<String> privateNames = new HashSet<>();
        for (Method m : all) {
            if (Modifier.isPrivate(m.getModifiers())) {
                privateNames.add(m.getName());
                Check.that(m.getName() + " takes at most seven parameters", m.getParameterCount() <= 7);
                continue;
            }
            Check.that(m.getName() + " is public", Modifier.isPublic(m.getModifiers()));
            Check.that(m.getName() + " is not static", !Modifier.isStatic(m.getModifiers()));
            String types = Arrays.toString(Arrays.stream(m.getParameterTypes()).map(Class::getName).toArray());
            open.add(m.getReturnType().getName() + " " + m.getName() + types.replace('[', '(').replace(']', ')'));
            openNames.add(m.getName());
        }
        Check.that("the public methods are those of the document, and are " + open, open.equals(FACE));
        privateNames.retainAll(openNames);
        Check.that("private methods with a public name: " + privateNames, privateNames.isEmpty());
    }

    private static void fields(Field[] all) {
        int own = 0;
        for (Field f : all) {
            int m = f.getModifiers();
            Check.that(f.getName() + " is private", Modifier.isPrivate(m));
            Check.that(f.getName() + " has a type that is left", TYPES.contains(f.getType()));
            if (Modifier.isStatic(m)) {
                Check.that(f.getName() + " is final", Modifier.isFinal(m));
                Check.that(f.getName() + " is an int or a long", f.getType() == int.class || f.getType() == long.class);
            } else {
                own++;
            }
        }
        Check.that("at most forty fields", own <= 40);
    }
}
