import java.lang.reflect.Constructor;
import java.lang.reflect.Field;
import java.lang.reflect.Method;
import java.lang.reflect.Modifier;
import java.util.Arrays;
import java.util.NoSuchElementException;
import java.util.Set;
import java.util.TreeSet;

/** The public face: all that the document tells of it, and no member more that others could see. */
public final class FaceTest {
    private static final String[] METHODS = {
        "int feed(int, int, int, int, int)", "boolean end(int)", "int fault(int)", "int text(int)",
        "int house(int, int)", "int wire(int, int)", "boolean law(int)", "int strike(int, int)",
        "int lay(int, int)", "int cut(int)", "int scrape(int)", "int ground(int)", "int summers(int)",
        "boolean set(int, int)", "int decades(int, long)", "int status(int)", "int undo()",
        "int log(int, int)", "int keeps(int, int, int)", "int burning(int, int)", "int lost(int, int)",
        "int couples(int)", "int marry(int, int, int)", "int parting(int, int, int)", "int stands(int)",
        "int earth()", "int single()", "int town(int)", "int net(int)",
        "int game(int, int, int, int, int, int)", "int rests(int, int, int, int)", "int leaves(int)",
        "int scorched(int, int, int, boolean)", "int who(int, int)", "int sure(int)", "int best(int)",
        "int odds(int, int)", "int premium(int, int, int)", "int test(int, boolean)", "int stroke()",
        "int far(int, int)", "int most(int)", "int image()", "int back()", "int count(int)"};

    private FaceTest() {
    }

    public static void main(String[] args) throws Exception {
        theClass();
        theConstants();
        theMethods();
        theHouseThrows();
        Check.finish();
    }

    private static void told(String what, boolean is) {
        Check.due(what, is, true);
    }

    private static boolean isSeen(int modifiers) {
        return !Modifier.isPrivate(modifiers);
    }

    private static void theClass() {
        int of = CopperTies.class.getModifiers();
        told("public", Modifier.isPublic(of));
        told("final", Modifier.isFinal(of));
        Constructor<?>[] made = CopperTies.class.getDeclaredConstructors();
        Check.due("constructors", made.length, 1);
        told("a public one", Modifier.isPublic(made[0].getModifiers()));
        Check.due("of nothing", made[0].getParameterCount(), 0);
        for (Class<?> inner : CopperTies.class.getDeclaredClasses()) {
            told(inner + " is static", Modifier.isStatic(inner.getModifiers()));
            told(inner + " is not public", !Modifier.isPublic(inner.getModifiers()));
        }
    }

    private static void theConstants() throws Exception {
        int seen = 0;
        for (Field field : CopperTies.class.getDeclaredFields()) {
            int of = field.getModifiers();
            told(field + ": static fields are final", !Modifier.isStatic(of) || Modifier.isFinal(of));
            if (isSeen(of)) {
                seen++;
                told(field + " is public, static, int", Modifier.isPublic(of) && Modifier.isStatic(of)
                    && field.getType() == int.class);
            }
        }
        Check.due("constants", seen, 2);
        Check.due("NONE", CopperTies.class.getDeclaredField("NONE").getInt(null), -1);
        Check.due("HIDDEN", CopperTies.class.getDeclaredField("HIDDEN").getInt(null), -1000000);
    }

    private static String tell(Method method) {
        String[] types = Arrays.stream(method.getParameterTypes()).map(Class::getName).toArray(String[]::new);
        return method.getReturnType().getName() + " " + method.getName() + "(" + String.join(", ", types) + ")";
    }

    private static void theMethods() {
        Set<String> missing = new TreeSet<>(Arrays.asList(METHODS));
        Check.due("methods that the document tells", missing.size(), 45);
        Set<String> names = new TreeSet<>();
        for (Method method : CopperTies.class.getDeclaredMethods()) {
            if (isSeen(method.getModifiers())) {
                String told = tell(method);
                told(told + " is of the face", missing.remove(told));
                told(told + " is public, not static", Modifier.isPublic(method.getModifiers())
                    && !Modifier.isStatic(method.getModifiers()));
                names.add(method.getName());
            }
        }
        Check.due("missing: " + missing, missing.size(), 0);
        for (Method method : CopperTies.class.getDeclaredMethods()) {
            told(method + " bears no public one's name",
                isSeen(method.getModifiers()) || !names.contains(method.getName()));
        }
    }

    private static void theHouseThrows() throws Exception {
        Class<?>[] thrown = CopperTies.class.getMethod("house", int.class, int.class).getExceptionTypes();
        Check.due("house throws", thrown.length, 1);
        told("such a one", thrown[0] == NoSuchElementException.class);
        // that class itself, not one below or above it
        try {
            new CopperTies().house(0, 0);
            told("house without a belt throws", false);
        } catch (RuntimeException e) {
            told("it is such a one", e.getClass() == NoSuchElementException.class);
        }
    }
}
