import java.lang.reflect.Constructor;
import java.lang.reflect.Field;
import java.lang.reflect.Method;
import java.lang.reflect.Modifier;
import java.util.Set;
import java.util.TreeSet;

/** The class shows what the document's public face shows, and nothing else. */
final class FaceTest {
    private static final Set<String> METHODS = Set.of(
            "int write(int,int)", "int read(int)", "int patch(int,int,int)", "int spread(int,int,int)",
            "int clone(int,int)", "int erase(int)", "int holders(int)", "int distinct()", "int used()",
            "int saved()", "int alone(int)", "int aloneIn(int)", "int twin(int)", "int favourite()",
            "void tidy()");
    private static final Set<String> CONSTANTS = Set.of("BAD_ARG", "FULL", "NONE");

    private FaceTest() {
    }

    public static void main(String[] args) {
        Class<?> face = DedupBlocks.class;
        Check.that("public and final", Modifier.isPublic(face.getModifiers()) && Modifier.isFinal(face.getModifiers()));
        methods(face);
        constants(face);
        constructors(face);
        Check.that("no nested class", face.getDeclaredClasses().length == 0);
        Check.end();
    }

    private static void methods(Class<?> face) {
        Set<String> open = new TreeSet<>();
        for (Method m : face.getDeclaredMethods()) {
            if (Modifier.isPrivate(m.getModifiers())) {
                continue;
            }
            Check.that("public and of the object: " + m, m.getModifiers() == Modifier.PUBLIC);
            StringBuilder parameters = new StringBuilder();
            for (Class<?> p : m.getParameterTypes()) {
                parameters.append(parameters.length() == 0 ? "" : ",").append(p);
            }
            open.add(m.getReturnType() + " " + m.getName() + "(" + parameters + ")");
        }
        Check.that("the methods are those of the document: " + open, open.equals(METHODS));
    }

    private static void constants(Class<?> face) {
        Set<String> open = new TreeSet<>();
        int constant = Modifier.PUBLIC | Modifier.STATIC | Modifier.FINAL;
        for (Field f : face.getDeclaredFields()) {
            if (Modifier.isPrivate(f.getModifiers())) {
                continue;
            }
            Check.that("a constant of int: " + f, f.getModifiers() == constant && f.getType() == int.class);
            open.add(f.getName());
        }
        Check.that("the constants are those of the document: " + open, open.equals(CONSTANTS));
    }

    private static void constructors(Class<?> face) {
        Constructor<?>[] all = face.getDeclaredConstructors();
        Check.that("one public constructor without arguments",
                all.length == 1 && Modifier.isPublic(all[0].getModifiers()) && all[0].getParameterCount() == 0);
    }
}
