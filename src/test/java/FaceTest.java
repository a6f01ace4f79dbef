import java.lang.reflect.Constructor;
import java.lang.reflect.Field;
import java.lang.reflect.Method;
import java.lang.reflect.Modifier;
import java.util.Set;
import java.util.TreeSet;

/** The public face: what the document lists, and no other member that is not private. */
public final class FaceTest {
    private static final Set<String> FACE = Set.of(
        "public static final int OverlayFabric.NONE",
        "public OverlayFabric()",
        "public boolean OverlayFabric.begin(int)",
        "public int OverlayFabric.station(int,int,int)",
        "public boolean OverlayFabric.move(int,int)",
        "public boolean OverlayFabric.way(int,int,int)",
        "public boolean OverlayFabric.feed(int)",
        "public int OverlayFabric.send(int,long,int)",
        "public int OverlayFabric.deliver(int)",
        "public int OverlayFabric.twice(int)",
        "public boolean OverlayFabric.lose(int)",
        "public int OverlayFabric.inject(int)",
        "public boolean OverlayFabric.poke(int,int,int)",
        "public int OverlayFabric.flying()",
        "public int OverlayFabric.packet(int,int)",
        "public int OverlayFabric.size(int)",
        "public int OverlayFabric.tick(int)",
        "public int OverlayFabric.forget(int)",
        "public int OverlayFabric.known(int)",
        "public long OverlayFabric.knows(int,int,int)",
        "public int OverlayFabric.got(int)",
        "public int OverlayFabric.frame(int,int,int)",
        "public int OverlayFabric.length(int,int)",
        "public int OverlayFabric.count(int)");

    public static void main(String[] args) {
        Due due = new Due();
        Set<String> found = new TreeSet<>();
        for (Field f : OverlayFabric.class.getDeclaredFields()) {
            note(found, f.getModifiers(), f.toString());
        }
        for (Constructor<?> c : OverlayFabric.class.getDeclaredConstructors()) {
            note(found, c.getModifiers(), c.toString());
        }
        for (Method m : OverlayFabric.class.getDeclaredMethods()) {
            note(found, m.getModifiers(), m.toString());
        }
        for (String member : FACE) {
            due.yes(member, found.contains(member));
        }
        for (String member : found) {
            due.yes(member + " in the document", FACE.contains(member));
        }
        due.yes("final class", Modifier.isFinal(OverlayFabric.class.getModifiers()));
        due.eq("NONE", OverlayFabric.NONE, -1);
        due.end();
    }

    private static void note(Set<String> found, int modifiers, String member) {
        if (!Modifier.isPrivate(modifiers)) {
            found.add(member);
        }
    }
}
