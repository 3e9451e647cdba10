import java.lang.reflect.Constructor;
import java.lang.reflect.Field;
import java.lang.reflect.Method;
import java.lang.reflect.Modifier;
import java.util.ArrayList;
import java.util.Collections;
import java.util.List;

/** The public face is the document's, and nothing else can be seen from outside. */
public final class FaceTest {
    private static final Probe probe = new Probe();

    public static void main(String[] args) {
        List<String> seen = new ArrayList<>();
        for (Method m : MarkBlocks.class.getDeclaredMethods()) {
            if (!Modifier.isPrivate(m.getModifiers())) {
                seen.add(m.toString());
            }
        }
        for (Field f : MarkBlocks.class.getDeclaredFields()) {
            if (!Modifier.isPrivate(f.getModifiers())) {
                seen.add(f.toString());
            }
        }
        for (Constructor<?> c : MarkBlocks.class.getDeclaredConstructors()) {
            seen.add(c.toString());
        }
        Collections.sort(seen);
        probe.due("the face", seen, List.of(
            "public MarkBlocks()",
            "public int MarkBlocks.about(int)",
            "public int MarkBlocks.block(int,int)",
            "public int MarkBlocks.defined(int,int,int)",
            "public int MarkBlocks.definition(int,int)",
            "public int MarkBlocks.definitions()",
            "public int MarkBlocks.end(int)",
            "public int MarkBlocks.fault()",
            "public int MarkBlocks.find()",
            "public int MarkBlocks.letter(int,boolean,int)",
            "public int MarkBlocks.read() throws java.lang.IllegalArgumentException",
            "public static final int MarkBlocks.NONE",
            "public void MarkBlocks.feed(int,int,int,int,int)",
            "public void MarkBlocks.wipe()"));
        probe.due("final", Modifier.isFinal(MarkBlocks.class.getModifiers()), true);
        probe.due("NONE", MarkBlocks.NONE, -1);
        for (Class<?> inner : MarkBlocks.class.getDeclaredClasses()) {
            probe.due(inner + " is static", Modifier.isStatic(inner.getModifiers()), true);
        }
        probe.finish();
    }
}
