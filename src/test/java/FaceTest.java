import java.lang.reflect.Constructor;
import java.lang.reflect.Field;
import java.lang.reflect.Method;
import java.lang.reflect.Modifier;
import java.util.Arrays;
import java.util.HashSet;
import java.util.Set;
import java.util.TreeSet;
import java.util.stream.Collectors;

/** The public face: exactly the constants, the constructor and the methods that the document writes. */
public final class FaceTest {
    private static final String[] METHODS = {"int feed(int,int,int,int,int) IllegalStateException",
        "int trim(int) IllegalArgumentException,IllegalStateException", "int run() IllegalStateException",
        "int fault(int) IllegalArgumentException,IllegalStateException", "int open() IllegalStateException",
        "boolean key(int,int) IllegalArgumentException,IllegalStateException",
        "long amount(int,long) IllegalArgumentException,IllegalStateException",
        "int stage(int) IllegalArgumentException,IllegalStateException",
        "int spread(int,long) IllegalArgumentException,IllegalStateException", "int drop() IllegalStateException",
        "int load() IllegalStateException", "int choose(int) IllegalArgumentException,IllegalStateException",
        "int settle() IllegalStateException", "void crash(int) IllegalArgumentException,IllegalStateException",
        "int recover() ", "int state() ", "int writes() ",
        "int count(int) IllegalArgumentException,IllegalStateException", "int view(int,int) IllegalArgumentException",
        "int rows() IllegalStateException", "long cell(int,int) IllegalArgumentException",
        "boolean isBlank(int,int) IllegalArgumentException", "int served() IllegalStateException",
        "int audit() IllegalStateException"};

    public static void main(String[] args) throws Exception {
        Check check = new Check("FaceTest");
        Set<String> publicNames = new HashSet<>();
        Set<String> found = new TreeSet<>();
        for (Method m : CubeStore.class.getDeclaredMethods()) {
            if (Modifier.isPublic(m.getModifiers())) {
                publicNames.add(m.getName());
                found.add(m.getReturnType().getSimpleName() + " " + m.getName() + "(" + names(m.getParameterTypes()) + ") "
                    + names(m.getExceptionTypes()));
            }
        }
        for (Method m : CubeStore.class.getDeclaredMethods()) {
            if (!Modifier.isPublic(m.getModifiers())) {
                check.due(m + " is private", Modifier.isPrivate(m.getModifiers()), true);
                check.due(m + " has a name of its own", publicNames.contains(m.getName()), false);
            }
        }
        Set<String> wanted = new TreeSet<>(Arrays.asList(METHODS));
        check.due("methods " + found, found.equals(wanted), true);
        check.due("is final", Modifier.isFinal(CubeStore.class.getModifiers()), true);
        constructors(check);
        fields(check);
        for (Class<?> inner : CubeStore.class.getDeclaredClasses()) {
            check.due(inner + " is static", Modifier.isStatic(inner.getModifiers()), true);
            check.due(inner + " is not public", Modifier.isPublic(inner.getModifiers()), false);
        }
        check.due("classes in the file", CubeStore.class.getDeclaredClasses().length < 12, true);
        check.end();
    }

    private static String names(Class<?>[] types) {
        return Arrays.stream(types).map(Class::getSimpleName).collect(Collectors.joining(","));
    }

    private static void constructors(Check check) {
        Constructor<?>[] all = CubeStore.class.getDeclaredConstructors();
        check.due("constructors", all.length, 1);
        check.due("it takes an int", Arrays.equals(all[0].getParameterTypes(), new Class<?>[] {int.class}), true);
        check.due("it is public", Modifier.isPublic(all[0].getModifiers()), true);
    }

    private static void fields(Check check) {
        Set<String> constants = new TreeSet<>();
        for (Field f : CubeStore.class.getDeclaredFields()) {
            if (Modifier.isPublic(f.getModifiers())) {
                constants.add(f.getName());
                check.due(f + " is a constant", Modifier.isStatic(f.getModifiers()) && Modifier.isFinal(f.getModifiers()), true);
            } else {
                check.due(f + " is private", Modifier.isPrivate(f.getModifiers()), true);
            }
        }
        check.due("constants " + constants, constants.equals(new TreeSet<>(Arrays.asList("NONE", "FULL", "CUT"))), true);
        check.due("NONE", CubeStore.NONE, -1);
        check.due("FULL", CubeStore.FULL, -2);
        check.due("CUT", CubeStore.CUT, -3);
    }
}
