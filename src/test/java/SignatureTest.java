import java.lang.reflect.Constructor;
import java.lang.reflect.Field;
import java.lang.reflect.Method;
import java.lang.reflect.Modifier;
import java.util.TreeSet;

/** The public face: the document's constants, constructor and methods, and no other member but private ones. */
public final class SignatureTest {
    private static final Check CHECK = new Check("SignatureTest");
    private static final String[] DUE = {
        "public PlaneFaces()",
        "public boolean PlaneFaces.remove(int)",
        "public int PlaneFaces.above(int,int) throws java.lang.IllegalArgumentException",
        "public int PlaneFaces.across(int,int) throws java.lang.IndexOutOfBoundsException",
        "public int PlaneFaces.add(int,int,int,int) throws java.lang.IllegalArgumentException,java.lang.IllegalStateException",
        "public int PlaneFaces.area(int) throws java.lang.IndexOutOfBoundsException",
        "public int PlaneFaces.around(int) throws java.lang.IndexOutOfBoundsException",
        "public int PlaneFaces.begins(int,boolean) throws java.lang.IndexOutOfBoundsException",
        "public int PlaneFaces.border(int,int) throws java.lang.IndexOutOfBoundsException",
        "public int PlaneFaces.clear()",
        "public int PlaneFaces.count(int)",
        "public int PlaneFaces.face(int) throws java.lang.IndexOutOfBoundsException",
        "public int PlaneFaces.locate(int,int) throws java.lang.IllegalArgumentException",
        "public int PlaneFaces.next(int) throws java.lang.IndexOutOfBoundsException",
        "public int PlaneFaces.piece(int) throws java.lang.IndexOutOfBoundsException",
        "public static final int PlaneFaces.NONE",
        "public static final int PlaneFaces.POINT",
    };

    public static void main(String[] args) {
        TreeSet<String> found = new TreeSet<>();
        for (Constructor<?> c : PlaneFaces.class.getDeclaredConstructors()) {
            note(found, c.getModifiers(), c.toString());
        }
        for (Method m : PlaneFaces.class.getDeclaredMethods()) {
            note(found, m.getModifiers(), m.toString());
        }
        for (Field f : PlaneFaces.class.getDeclaredFields()) {
            note(found, f.getModifiers(), f.toString());
        }
        CHECK.equal("members", String.join("\n", DUE), String.join("\n", found));
        CHECK.equal("class", "public final", Modifier.toString(PlaneFaces.class.getModifiers()));
        CHECK.end();
    }

    private static void note(TreeSet<String> found, int modifiers, String member) {
        if (!Modifier.isPrivate(modifiers)) {
            found.add(member);
        }
    }
}
