import java.lang.reflect.Constructor;
import java.lang.reflect.Field;
import java.lang.reflect.Method;
import java.lang.reflect.Modifier;
import java.util.Arrays;
import java.util.Set;
import java.util.TreeSet;

/** The public face: the constants, the constructor and the methods as the document declares them, and no other visible member. */
public final class FaceTest {
    private static final String[] CONSTANTS = {
        "NO_MATCH=-1", "REFUSED=-2", "MAX_CONS=8", "NUM_VARS=8",
        "P_WILD=0", "P_AS=1", "P_CONS=2", "P_OR=3",
        "G_NONE=0", "G_SAME=1", "G_DIFF=2", "G_HEAD=3", "G_LOW=4",
        "COUNT_CONS=0", "COUNT_TERMS=1", "COUNT_PATTERNS=2", "COUNT_ROWS=3", "COUNT_COMPILED=4",
    };

    private static final String[] METHODS = {
        "public int defCons[int]",
        "public int term[int, int, int]",
        "public int pat[int, int, int, int]",
        "public int addRow[int, int, int, int]",
        "public int compile[]",
        "public void reset[]",
        "public int match[int]",
        "public int matchInOrder[int]",
        "public boolean rowPatternMatches[int, int]",
        "public int lastRow[]",
        "public int binding[int]",
        "public int guardLogLength[]",
        "public int guardLogAt[int]",
        "public int termHeight[int]",
        "public int count[int]",
    };

    public static void main(String[] args) throws IllegalAccessException {
        Class<?> face = BacktrackMatch.class;
        Check.due("the class's modifiers", Modifier.toString(face.getModifiers()), "public final");
        Check.due("nested classes", face.getDeclaredClasses().length, 0);
        Check.due("the constants", visibleFields(face).toString(), sorted(CONSTANTS).toString());
        Check.due("the methods", visibleMethods(face).toString(), sorted(METHODS).toString());
        Check.due("the constructors", constructors(face).toString(), "[public[int, int, int]]");
        Check.end();
    }

    private static Set<String> sorted(String[] lines) {
        return new TreeSet<>(Arrays.asList(lines));
    }

    private static Set<String> visibleFields(Class<?> face) throws IllegalAccessException {
        Set<String> found = new TreeSet<>();
        for (Field field : face.getDeclaredFields()) {
            if (Modifier.isPrivate(field.getModifiers())) {
                continue;
            }
            String kind = Modifier.toString(field.getModifiers()) + " " + field.getType();
            Check.due(field.getName() + " is declared", kind, "public static final int");
            found.add(field.getName() + "=" + field.get(null));
        }
        return found;
    }

    private static Set<String> visibleMethods(Class<?> face) {
        Set<String> found = new TreeSet<>();
        for (Method method : face.getDeclaredMethods()) {
            if (Modifier.isPrivate(method.getModifiers())) {
                continue;
            }
            found.add(Modifier.toString(method.getModifiers()) + " " + method.getReturnType() + " " + method.getName()
                + Arrays.toString(method.getParameterTypes()));
        }
        return found;
    }

    private static Set<String> constructors(Class<?> face) {
        Set<String> found = new TreeSet<>();
        for (Constructor<?> constructor : face.getDeclaredConstructors()) {
            found.add(Modifier.toString(constructor.getModifiers()) + Arrays.toString(constructor.getParameterTypes()));
        }
        return found;
    }
}
