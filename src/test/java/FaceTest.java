import java.lang.reflect.Field;
import java.lang.reflect.Method;
import java.lang.reflect.Modifier;
import java.util.Arrays;
import java.util.TreeSet;

/** The class shows the document's face, its constants, and nothing else. */
public final class FaceTest {
    private static final String METHODS =
        "at(int, int, int) block(int, int) clip(int, int, int) enough(int, int) fade(int, int) fault(int) figure() "
        + "force(int, int) foretell(int, int) frost(int, boolean) hands(int) look(int, int, int) "
        + "note(int, int, int, int) ring() rule(int, int, int) run(int) spoils(int, int) stands() "
        + "stick(int, boolean) thing(int, int, int, int) told(int) train(int, int, int) trainOf(int, int) "
        + "turns(int, int) wall(int, int, int) wallOf(int, int) week() where(int, int, int)";

    public static void main(String[] args) {
        Class<ModelTown> town = ModelTown.class;
        Check.same("the class", Modifier.toString(town.getModifiers()), "public final");
        Check.same("the constructors", Arrays.toString(town.getDeclaredConstructors()), "[public ModelTown()]");
        TreeSet<String> methods = new TreeSet<>();
        for (Method method : town.getDeclaredMethods()) {
            if (!Modifier.isPrivate(method.getModifiers())) {
                methods.add(faceOf(method));
            }
        }
        Check.same("the methods", String.join(" ", methods), METHODS);
        TreeSet<String> fields = new TreeSet<>();
        for (Field field : town.getDeclaredFields()) {
            if (!Modifier.isPrivate(field.getModifiers())) {
                fields.add(Modifier.toString(field.getModifiers()) + " " + field.getType() + " " + field.getName());
            }
        }
        String kind = "public static final int ";
        Check.same("the constants", String.join(", ", fields), kind + "FULL, " + kind + "NO, " + kind + "NONE, "
            + kind + "OUTSIDE, " + kind + "STATE, " + kind + "UNKNOWN");
        constants();
        Check.end();
    }

    private static String faceOf(Method method) {
        String name = method.toString().replace("public int ModelTown.", "");
        return name.replace(",", ", ");
    }

    private static void constants() {
        Check.due(1, "NONE", ModelTown.NONE, -6);
        Check.due(1, "UNKNOWN", ModelTown.UNKNOWN, -1);
        Check.due(1, "OUTSIDE", ModelTown.OUTSIDE, -2);
        Check.due(1, "STATE", ModelTown.STATE, -3);
        Check.due(1, "FULL", ModelTown.FULL, -4);
        Check.due(1, "NO", ModelTown.NO, -5);
    }
}
