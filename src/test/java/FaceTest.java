import java.lang.reflect.Constructor;
import java.lang.reflect.Field;
import java.lang.reflect.Method;
import java.lang.reflect.Modifier;
import java.util.Arrays;
import java.util.TreeSet;

/** "The public face": the class has what stands there and nothing else that can be seen. */
public final class FaceTest {
    private static final Check CHECK = new Check("FaceTest");

    public static void main(String[] args) {
        CHECK.sentence("The public face", "public final class DelayCore");
        CHECK.due("public and final", DelayCore.class.getModifiers(), Modifier.PUBLIC | Modifier.FINAL);
        members();
        insides();
        CHECK.close();
    }

    private static void members() {
        CHECK.sentence("The public face", "public int state(int what) throws IndexOutOfBoundsException;");
        TreeSet<String> due = new TreeSet<>(Arrays.asList(
            "DelayCore(int)",
            "int put(int,int) throws IllegalArgumentException",
            "int word(int) throws IllegalArgumentException",
            "int go(int) throws IllegalArgumentException",
            "int set(int,int) throws IndexOutOfBoundsException",
            "int get(int) throws IndexOutOfBoundsException,IllegalStateException",
            "int run(int) throws IllegalArgumentException,IllegalStateException",
            "int end()",
            "int pass() throws IllegalStateException",
            "int state(int) throws IndexOutOfBoundsException"));
        TreeSet<String> got = new TreeSet<>();
        for (Constructor<?> one : DelayCore.class.getDeclaredConstructors()) {
            see(got, one.getModifiers(), one.toGenericString());
        }
        for (Method one : DelayCore.class.getDeclaredMethods()) {
            see(got, one.getModifiers(), one.toGenericString());
        }
        for (Field one : DelayCore.class.getDeclaredFields()) {
            see(got, one.getModifiers(), one.toGenericString());
        }
        CHECK.due("all that is not private", got.toString(), due.toString());
    }

    private static void see(TreeSet<String> all, int modifiers, String told) {
        if (!Modifier.isPrivate(modifiers)) {
            all.add(told.replace("public ", "").replace("DelayCore.", "").replace("java.lang.", ""));
        }
    }

    /** Classes inside are not public, and no static state can be changed. */
    private static void insides() {
        CHECK.sentence("The public face", "public final class DelayCore");
        for (Class<?> inside : DelayCore.class.getDeclaredClasses()) {
            CHECK.due(inside + " is not public", Modifier.isPublic(inside.getModifiers()) ? 1 : 0, 0);
            for (Field field : inside.getDeclaredFields()) {
                boolean fixed = !Modifier.isStatic(field.getModifiers()) || Modifier.isFinal(field.getModifiers());
                CHECK.due(field + " is fixed", fixed ? 1 : 0, 1);
            }
        }
    }
}
