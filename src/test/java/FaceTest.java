import java.lang.reflect.Constructor;
import java.lang.reflect.Field;
import java.lang.reflect.Member;
import java.lang.reflect.Method;
import java.lang.reflect.Modifier;
import java.util.Set;
import java.util.TreeSet;

/** 'The public face': the class has what the document writes there, and shows nothing more. */
public final class FaceTest extends Trials {
    private static final Set<String> FACE = Set.of(
            "public static final int NONE",
            "public TreeChanges()",
            "public boolean path(int,int,int)",
            "public void directory(int) throws IllegalArgumentException,IllegalStateException,"
                    + "UnsupportedOperationException",
            "public void file(int,int) throws IllegalArgumentException,IllegalStateException,"
                    + "UnsupportedOperationException",
            "public void add(int,int) throws IllegalArgumentException,IllegalStateException,"
                    + "UnsupportedOperationException",
            "public void remove(int) throws IllegalArgumentException,IllegalStateException",
            "public void move(int,int,int,int) throws IllegalArgumentException,IllegalStateException",
            "public void copy(int,int) throws IllegalArgumentException",
            "public int changes(int) throws IllegalArgumentException",
            "public int layer(int) throws IndexOutOfBoundsException",
            "public void apply(int) throws IllegalArgumentException,IllegalStateException",
            "public boolean same()",
            "public int entries(int) throws IllegalArgumentException",
            "public int entry(int,int,int) throws IllegalArgumentException,IndexOutOfBoundsException");

    private static String written(Member member) {
        return member.toString().replace("TreeChanges.", "").replace("java.lang.", "");
    }

    private static void addIfShown(Set<String> shown, Member member) {
        if (!Modifier.isPrivate(member.getModifiers()) && !member.isSynthetic()) {
            shown.add(written(member));
        }
    }

    private static void face() {
        Set<String> shown = new TreeSet<>();
        for (Field field : TreeChanges.class.getDeclaredFields()) {
            addIfShown(shown, field);
        }
        for (Constructor<?> constructor : TreeChanges.class.getDeclaredConstructors()) {
            addIfShown(shown, constructor);
        }
        for (Method method : TreeChanges.class.getDeclaredMethods()) {
            addIfShown(shown, method);
        }
        due("what the class shows", shown, new TreeSet<>(FACE));
        due("NONE", TreeChanges.NONE, -1);
    }

    private static void theClass() {
        due("the class", Modifier.toString(TreeChanges.class.getModifiers()), "public final");
        due("what it extends", TreeChanges.class.getSuperclass(), Object.class);
        due("what it implements", TreeChanges.class.getInterfaces().length, 0);
        due("its package", TreeChanges.class.getPackageName(), "");
        for (Class<?> inside : TreeChanges.class.getDeclaredClasses()) {
            int modifiers = inside.getModifiers();
            due(inside + " is shown", Modifier.isPublic(modifiers) || Modifier.isProtected(modifiers), false);
            due(inside + " is static", Modifier.isStatic(modifiers), true);
        }
    }

    public static void main(String[] args) {
        theClass();
        face();
        finish();
    }
}
