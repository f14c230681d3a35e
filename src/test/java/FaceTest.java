import java.lang.reflect.Constructor;
import java.lang.reflect.Field;
import java.lang.reflect.Method;
import java.lang.reflect.Modifier;
import java.util.TreeSet;

/** The public face is the document's, and nothing else can be seen from outside. */
public final class FaceTest {
    public static void main(String[] args) {
        Class<?> face = TreeContract.class;
        Check.due("class modifiers", Modifier.toString(face.getModifiers()), "public final");
        Check.due("nested classes", face.getDeclaredClasses().length, 0);
        Check.due("constructors", constructors(face), "[public TreeContract()]");
        Check.due("fields that are not private", openFields(face), "[]");
        Check.due("methods that are not private", openMethods(face), new TreeSet<String>(java.util.List.of(
                "public int TreeContract.grow(int,int,int,int)",
                "public int TreeContract.shrink(int)",
                "public int TreeContract.set(int,int)",
                "public int TreeContract.setSort(int,int)",
                "public int TreeContract.turn(int)",
                "public int TreeContract.value(int)",
                "public int TreeContract.slope(int)",
                "public int TreeContract.left(int)",
                "public int TreeContract.right(int)",
                "public int TreeContract.joints()")).toString());
        Check.finish();
    }

    private static String constructors(Class<?> face) {
        TreeSet<String> found = new TreeSet<>();
        for (Constructor<?> constructor : face.getDeclaredConstructors()) {
            found.add(constructor.toString());
        }
        return found.toString();
    }

    private static String openFields(Class<?> face) {
        TreeSet<String> found = new TreeSet<>();
        for (Field field : face.getDeclaredFields()) {
            if (!Modifier.isPrivate(field.getModifiers())) {
                found.add(field.toString());
            }
        }
        return found.toString();
    }

    private static String openMethods(Class<?> face) {
        TreeSet<String> found = new TreeSet<>();
        for (Method method : face.getDeclaredMethods()) {
            if (!Modifier.isPrivate(method.getModifiers())) {
                found.add(method.toString());
            }
        }
        return found.toString();
    }
}
