import java.lang.reflect.Constructor;
import java.lang.reflect.Field;
import java.lang.reflect.Method;
import java.lang.reflect.Modifier;
import java.util.Set;
import java.util.TreeSet;

/** The public face is the document's and nothing more. */
public final class FaceTest {
    private static final String[] METHODS = {"feed 1", "wipe 0", "type 1", "told 1", "key 2", "branch 2", "put 1", "take 0", "cut 0",
        "raise 1", "drift 1", "undo 1", "below 1", "stem 0", "beside 1", "closest 0", "off 0", "blind 1", "way 2", "unlike 2", "bit 1",
        "seed 1", "keep 1", "goBack 1"};
    private static final Checks C = new Checks();

    private FaceTest() {
    }

    public static void main(String[] args) {
        C.holds("the class is public and final", Modifier.isPublic(BitBranches.class.getModifiers())
            && Modifier.isFinal(BitBranches.class.getModifiers()));
        C.due("NONE", BitBranches.NONE, -1);
        C.due("UNKNOWN", BitBranches.UNKNOWN, -1000000001);
        C.due("OUTSIDE", BitBranches.OUTSIDE, -1000000002);
        C.due("NOT", BitBranches.NOT, -1000000003);
        C.due("FULL", BitBranches.FULL, -1000000004);
        constructors();
        methods();
        fields();
        for (Class<?> inside : BitBranches.class.getDeclaredClasses()) {
            C.holds(inside + " is static", Modifier.isStatic(inside.getModifiers()));
            C.holds(inside + " is private or package-visible", !isOpen(inside.getModifiers()));
        }
        C.end();
    }

    private static boolean isOpen(int modifiers) {
        return Modifier.isPublic(modifiers) || Modifier.isProtected(modifiers);
    }

    private static void constructors() {
        Constructor<?>[] all = BitBranches.class.getDeclaredConstructors();
        C.due("constructors", all.length, 1);
        C.holds("the constructor is public and takes nothing", Modifier.isPublic(all[0].getModifiers()) && all[0].getParameterCount() == 0);
    }

    private static void methods() {
        Set<String> want = new TreeSet<>(Set.of(METHODS));
        Set<String> got = new TreeSet<>();
        Set<String> hidden = new TreeSet<>();
        for (Method m : BitBranches.class.getDeclaredMethods()) {
            if (Modifier.isPrivate(m.getModifiers())) {
                hidden.add(m.getName());
                continue;
            }
            got.add(m.getName() + " " + m.getParameterCount());
            C.holds(m + " is public, not static and answers an int",
                Modifier.isPublic(m.getModifiers()) && !Modifier.isStatic(m.getModifiers()) && m.getReturnType() == int.class);
            for (Class<?> type : m.getParameterTypes()) {
                C.holds(m + " takes ints", type == int.class);
            }
        }
        C.holds("methods are " + want + ", not " + got, want.equals(got));
        for (String name : METHODS) {
            C.holds("no private method is called as " + name, !hidden.contains(name.substring(0, name.indexOf(' '))));
        }
    }

    private static void fields() {
        Set<String> open = new TreeSet<>();
        for (Field f : BitBranches.class.getDeclaredFields()) {
            if (!Modifier.isPrivate(f.getModifiers())) {
                open.add(f.getName());
            }
            C.holds(f + " is final if it is static", !Modifier.isStatic(f.getModifiers()) || Modifier.isFinal(f.getModifiers()));
        }
        C.holds("open fields are the five constants, not " + open, open.equals(Set.of("NONE", "UNKNOWN", "OUTSIDE", "NOT", "FULL")));
    }
}
