import java.lang.reflect.Constructor;
import java.lang.reflect.Field;
import java.lang.reflect.Method;
import java.lang.reflect.Modifier;
import java.util.Set;
import java.util.TreeSet;

/** The class shows exactly the document's face, and no private method bears a public one's name. */
public final class FaceTest {
    private static int wrong = 0;

    private static void check(boolean holds, String what) {
        if (!holds) {
            wrong++;
            System.out.println("not so: " + what);
        }
    }

    public static void main(String[] args) {
        check(Modifier.isPublic(PathFamilies.class.getModifiers()), "the class is public");
        check(Modifier.isFinal(PathFamilies.class.getModifiers()), "the class is final");
        check(PathFamilies.class.getDeclaredClasses().length == 0, "no nested class");
        check(PathFamilies.BAD_ARG == -1, "BAD_ARG is -1");
        check(PathFamilies.NONE == -4, "NONE is -4");
        checkShownMembers();
        checkMethodNames();
        System.out.println(wrong == 0 ? "the face is as due" : wrong + " faults of the face");
        if (wrong != 0) System.exit(1);
    }

    private static void checkShownMembers() {
        Set<String> due = new TreeSet<>(Set.of(
            "public static final int PathFamilies.BAD_ARG",
            "public static final int PathFamilies.NONE",
            "public PathFamilies()",
            "public int PathFamilies.ends(int,int)",
            "public int PathFamilies.block(int,int)",
            "public int PathFamilies.weight(int,int)",
            "public int PathFamilies.paths(int,int)",
            "public int PathFamilies.families()",
            "public int PathFamilies.sum()",
            "public int PathFamilies.through(int)",
            "public int PathFamilies.throughBoth(int,int)",
            "public int PathFamilies.musts()",
            "public int PathFamilies.load(int)",
            "public int PathFamilies.cell(int,int)",
            "public int PathFamilies.loadedWeight()",
            "public int PathFamilies.rank()"));
        Set<String> shown = new TreeSet<>();
        for (Field f : PathFamilies.class.getDeclaredFields()) {
            if (!Modifier.isPrivate(f.getModifiers())) shown.add(f.toString());
        }
        for (Constructor<?> c : PathFamilies.class.getDeclaredConstructors()) {
            if (!Modifier.isPrivate(c.getModifiers())) shown.add(c.toString());
        }
        for (Method m : PathFamilies.class.getDeclaredMethods()) {
            if (!Modifier.isPrivate(m.getModifiers())) shown.add(m.toString());
        }
        check(shown.equals(due), "shown is " + shown + ", due is " + due);
    }

    private static void checkMethodNames() {
        Set<String> names = new TreeSet<>();
        for (Method m : PathFamilies.class.getDeclaredMethods()) {
            check(names.add(m.getName()), "one method alone is named " + m.getName());
        }
    }
}
