import java.lang.reflect.Constructor;
import java.lang.reflect.Field;
import java.lang.reflect.Method;
import java.lang.reflect.Modifier;
import java.util.Arrays;
import java.util.Set;
import java.util.TreeSet;

/** The face is that of the document, with its exceptions, and nothing else can be seen from outside. */
public final class FaceTest {
    private static final String STATE = " IllegalStateException";
    private static final String ARGUMENT = " IllegalArgumentException";
    private static final String INDEX = " IndexOutOfBoundsException";

    private FaceTest() {
    }

    public static void main(String[] args) {
        Checks checks = new Checks("face");
        Class<?> face = PreferenceCount.class;
        checks.holds("the class is public and final",
                Modifier.isPublic(face.getModifiers()) && Modifier.isFinal(face.getModifiers()));
        checks.same("the constructors", constructors(face), "public PreferenceCount[]");
        Set<String> due = new TreeSet<>(Arrays.asList(
                "void begin[int, int]" + ARGUMENT,
                "void draw[int, int]" + STATE + ARGUMENT,
                "void withdraw[int]" + STATE + ARGUMENT,
                "int lay[long, int]" + STATE + ARGUMENT,
                "int open[]" + STATE,
                "int step[]" + STATE,
                "boolean over[]",
                "int state[int]",
                "int status[int]" + INDEX,
                "long total[int, int, boolean]" + INDEX,
                "int papers[int]" + INDEX,
                "int moved[int, int]" + INDEX));
        checks.same("the public methods", publicMethods(face).toString(), due.toString());
        checkNothingElseIsSeen(checks, face);
        checks.finish();
    }

    private static String constructors(Class<?> face) {
        StringBuilder all = new StringBuilder();
        for (Constructor<?> one : face.getDeclaredConstructors()) {
            all.append(Modifier.toString(one.getModifiers())).append(' ').append(one.getName());
            all.append(Arrays.toString(one.getParameterTypes()));
        }
        return all.toString();
    }

    private static Set<String> publicMethods(Class<?> face) {
        Set<String> all = new TreeSet<>();
        for (Method one : face.getDeclaredMethods()) {
            if (Modifier.isPublic(one.getModifiers())) {
                all.add(told(one));
            }
        }
        return all;
    }

    private static String told(Method method) {
        StringBuilder text = new StringBuilder();
        text.append(method.getReturnType()).append(' ').append(method.getName());
        text.append(Arrays.toString(method.getParameterTypes()));
        for (Class<?> thrown : method.getExceptionTypes()) {
            text.append(' ').append(thrown.getSimpleName());
        }
        return text.toString();
    }

    private static void checkNothingElseIsSeen(Checks checks, Class<?> face) {
        Set<String> publicNames = new TreeSet<>();
        for (Method one : face.getDeclaredMethods()) {
            if (Modifier.isPublic(one.getModifiers())) {
                publicNames.add(one.getName());
            }
        }
        for (Method one : face.getDeclaredMethods()) {
            boolean isPrivate = Modifier.isPrivate(one.getModifiers());
            boolean isPublic = Modifier.isPublic(one.getModifiers());
            checks.holds(one.getName() + " is public or private", isPublic || isPrivate);
            checks.holds(one.getName() + " has a name of its own", isPublic || !publicNames.contains(one.getName()));
        }
        for (Field one : face.getDeclaredFields()) {
            checks.holds(one.getName() + " is private", Modifier.isPrivate(one.getModifiers()));
            checks.holds(one.getName() + " is final if static",
                    !Modifier.isStatic(one.getModifiers()) || Modifier.isFinal(one.getModifiers()));
        }
        for (Class<?> one : face.getDeclaredClasses()) {
            int modifiers = one.getModifiers();
            checks.holds(one.getName() + " is static and not public",
                    Modifier.isStatic(modifiers) && !Modifier.isPublic(modifiers) && !Modifier.isProtected(modifiers));
        }
    }
}
