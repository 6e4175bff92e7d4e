import java.lang.reflect.Constructor;
import java.lang.reflect.Field;
import java.lang.reflect.Method;
import java.lang.reflect.Modifier;
import java.util.Set;
import java.util.TreeSet;

/** The class shows the members of the document's public face, and no other one that is not private. */
public final class FaceTest {
    private static final Set<String> FACE = Set.of(
        "public final class LabelNet",
        "public static final int LabelNet.NONE",
        "public LabelNet()",
        "public boolean LabelNet.join(int,int,int)",
        "public boolean LabelNet.cut(int,int)",
        "public boolean LabelNet.setLink(int,int,boolean)",
        "public boolean LabelNet.setRouter(int,boolean)",
        "public int LabelNet.cost(int,int)",
        "public int LabelNet.distance(int,int)",
        "public int LabelNet.nextHop(int,int)",
        "public int LabelNet.hops(int,int)",
        "public int LabelNet.routeAt(int,int,int)",
        "public int LabelNet.after(int,int,int)",
        "public int LabelNet.load(int)",
        "public int LabelNet.linkLoad(int,int)",
        "public int LabelNet.reachable(int)",
        "public int LabelNet.farthest(int)",
        "public int LabelNet.impact(int,int)");

    public static void main(String[] args) {
        Set<String> missing = new TreeSet<>(FACE);
        missing.removeAll(shown());
        Set<String> beside = new TreeSet<>(shown());
        beside.removeAll(FACE);
        missing.forEach(member -> System.out.println("missing: " + member));
        beside.forEach(member -> System.out.println("not of the document: " + member));
        if (!missing.isEmpty() || !beside.isEmpty()) {
            System.exit(1);
        }
        System.out.println("the public face is as due");
    }

    private static Set<String> shown() {
        Set<String> found = new TreeSet<>();
        found.add(LabelNet.class.toGenericString());
        for (Field field : LabelNet.class.getDeclaredFields()) {
            add(found, field.getModifiers(), field.toString());
        }
        for (Constructor<?> constructor : LabelNet.class.getDeclaredConstructors()) {
            add(found, constructor.getModifiers(), constructor.toString());
        }
        for (Method method : LabelNet.class.getDeclaredMethods()) {
            add(found, method.getModifiers(), method.toString());
        }
        return found;
    }

    private static void add(Set<String> found, int modifiers, String member) {
        if (!Modifier.isPrivate(modifiers)) {
            found.add(member);
        }
    }
}
