import java.lang.reflect.Constructor;
import java.lang.reflect.Field;
import java.lang.reflect.Method;
import java.lang.reflect.Modifier;
import java.util.Set;
import java.util.TreeSet;

/** The public face: just the document's members, and nothing else that another class can see. */
public final class FaceTest {
    private static final Set<String> FACE = Set.of(
        "public static final int BAD", "public static final int FLOW", "public static final int FINAL",
        "public static final int NOTHING", "public static final int ENDED", "public StreamAssembler()",
        "public int piece(int,int,int,int)", "public int finish(int,int)", "public int read(int)",
        "public int readable(int)", "public int highest(int)", "public int gaps(int)",
        "public int gap(int,int)", "public int allowed(int)", "public int complete(int)");

    public static void main(String[] args) {
        Due.sentence("The public face");
        Class<StreamAssembler> type = StreamAssembler.class;
        Set<String> seen = new TreeSet<>();
        for (Field field : type.getDeclaredFields()) {
            if (!Modifier.isPrivate(field.getModifiers())) {
                seen.add(field.toString().replace("StreamAssembler.", ""));
            }
        }
        for (Method method : type.getDeclaredMethods()) {
            if (!Modifier.isPrivate(method.getModifiers())) {
                seen.add(method.toString().replace("StreamAssembler.", ""));
            }
        }
        for (Constructor<?> constructor : type.getDeclaredConstructors()) {
            seen.add(constructor.toString());
        }
        if (!seen.equals(FACE)) {
            Due.fault("the face is " + seen + ", due is " + new TreeSet<>(FACE));
        }
        if (type.getModifiers() != (Modifier.PUBLIC | Modifier.FINAL)) {
            Due.fault("the class is not public and final");
        }
        Due.due("BAD", StreamAssembler.BAD, -1);
        Due.due("FLOW", StreamAssembler.FLOW, -2);
        Due.due("FINAL", StreamAssembler.FINAL, -3);
        Due.due("NOTHING", StreamAssembler.NOTHING, -4);
        Due.due("ENDED", StreamAssembler.ENDED, -5);
        Due.end();
    }
}
