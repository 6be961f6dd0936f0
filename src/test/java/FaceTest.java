import java.lang.reflect.Constructor;
import java.lang.reflect.Field;
import java.lang.reflect.Method;
import java.lang.reflect.Modifier;
import java.util.Arrays;
import java.util.TreeSet;

/** The public face has what the document lists, and nothing else can be seen. */
public final class FaceTest {
    private static final String[] METHODS = {
        "public void clear()",
        "public void fell()",
        "public int operator(int) throws IllegalArgumentException,UnsupportedOperationException",
        "public int base(int,int,int,int,int)"
            + " throws IllegalArgumentException,UnsupportedOperationException",
        "public int chain(int,int,int)"
            + " throws IllegalArgumentException,UnsupportedOperationException",
        "public int node(int,int,int)"
            + " throws IllegalArgumentException,UnsupportedOperationException",
        "public int cost(int,int) throws IllegalArgumentException",
        "public int rule(int,int) throws IllegalArgumentException",
        "public int size(int,int) throws IllegalArgumentException,UnsupportedOperationException",
        "public int cover(int,int,int,int) throws IllegalArgumentException,"
            + "UnsupportedOperationException,IndexOutOfBoundsException",
        "public int states()",
        "public int like(int) throws IllegalArgumentException",
    };

    public static void main(String[] args) {
        Check check = new Check();
        Class<?> face = CoverTrees.class;
        check.dueText("class", Modifier.toString(face.getModifiers()), "public final");
        check.dueText("methods", methods(face), new TreeSet<>(Arrays.asList(METHODS)).toString());
        check.dueText("fields", fields(face), "[public static final int NONE]");
        Constructor<?>[] made = face.getDeclaredConstructors();
        check.due("constructors", made.length, 1);
        check.dueText("constructor", made[0].toGenericString(), "public CoverTrees()");
        check.due("NONE", CoverTrees.NONE, -1);
        check.end();
    }

    private static String methods(Class<?> face) {
        TreeSet<String> seen = new TreeSet<>();
        for (Method m : face.getDeclaredMethods()) {
            if (!Modifier.isPrivate(m.getModifiers()) && !m.isSynthetic()) {
                seen.add(plain(m.toString()));
            }
        }
        return seen.toString();
    }

    private static String fields(Class<?> face) {
        TreeSet<String> seen = new TreeSet<>();
        for (Field f : face.getDeclaredFields()) {
            if (!Modifier.isPrivate(f.getModifiers()) && !f.isSynthetic()) {
                seen.add(plain(f.toString()));
            }
        }
        return seen.toString();
    }

    private static String plain(String text) {
        return text.replace("java.lang.", "").replace("CoverTrees.", "");
    }
}
