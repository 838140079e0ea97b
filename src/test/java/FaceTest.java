import java.lang.reflect.Constructor;
import java.lang.reflect.Field;
import java.lang.reflect.Method;
import java.lang.reflect.Modifier;
import java.util.TreeSet;

/** The public face: the members that the document names, and none beside them. */
public final class FaceTest {
    private static final String[] FACE = {
        "public SexpMotion()",
        "public int SexpMotion.insert(int,int)",
        "public int SexpMotion.delete(int,int)",
        "public int SexpMotion.set(int,int)",
        "public int SexpMotion.length()",
        "public int SexpMotion.kindAt(int)",
        "public int SexpMotion.mode(int)",
        "public int SexpMotion.escaped(int)",
        "public int SexpMotion.depth(int)",
        "public int SexpMotion.bracketAt(int,int)",
        "public int SexpMotion.partner(int)",
        "public int SexpMotion.strays()",
        "public int SexpMotion.forward(int)",
        "public int SexpMotion.backward(int)",
        "public int SexpMotion.up(int)",
        "public int SexpMotion.down(int)",
        "public int SexpMotion.units()",
    };

    public static void main(String[] args) {
        Class<?> type = SexpMotion.class;
        TreeSet<String> seen = new TreeSet<>();
        for (Constructor<?> one : type.getDeclaredConstructors()) {
            if (!Modifier.isPrivate(one.getModifiers())) seen.add(one.toString());
        }
        for (Method one : type.getDeclaredMethods()) {
            if (!Modifier.isPrivate(one.getModifiers())) seen.add(one.toString());
        }
        for (Field one : type.getDeclaredFields()) {
            if (!Modifier.isPrivate(one.getModifiers())) seen.add(one.toString());
        }
        TreeSet<String> due = new TreeSet<>(java.util.List.of(FACE));
        boolean right = seen.equals(due) && type.getModifiers() == (Modifier.PUBLIC | Modifier.FINAL);
        System.out.println(right ? "the face is as due" : "the face is " + seen + ", due is " + due);
        if (!right) {
            System.exit(1);
        }
    }
}
