import java.lang.reflect.Constructor;
import java.lang.reflect.Field;
import java.lang.reflect.Method;
import java.lang.reflect.Modifier;
import java.util.Set;
import java.util.TreeSet;

/** The public face: the constants, the constructor and the methods of the document, and nothing else that can be seen. */
public final class FaceTest {
    private static final String[] CONSTANTS = {"UNKNOWN=-1", "OUTSIDE=-2", "STATE=-3", "FULL=-4", "NO=-5", "NONE=-6"};
    private static final String[] METHODS = {
        "link/3", "set/3", "friend/2", "sleep/2", "phase/0", "give/1", "has/2", "tell/4", "replay/3", "pass/1",
        "settle/0", "lamp/2", "taken/2", "mind/3", "air/2", "image/1", "restore/1", "count/1"};

    public static void main(String[] args) throws IllegalAccessException {
        Check.sentences(FaceTest.class);
        Check.end();
    }

    @Says(in = "The public face", text = "public final class MeshLamps {")
    private static void theClass() {
        Check.due("public and final", MeshLamps.class.getModifiers(), Modifier.PUBLIC | Modifier.FINAL);
        for (Class<?> inside : MeshLamps.class.getDeclaredClasses()) {
            Check.due(inside + " is static", Modifier.isStatic(inside.getModifiers()));
        }
    }

    @Says(in = "The public face",
        text = "public static final int UNKNOWN = -1, OUTSIDE = -2, STATE = -3, FULL = -4, NO = -5, NONE = -6;")
    private static void theConstants() throws IllegalAccessException {
        Check.same("constants", constants().toString(), new TreeSet<>(Set.of(CONSTANTS)).toString());
    }

    @Says(in = "The public face", text = "public MeshLamps();")
    private static void theConstructor() {
        Constructor<?>[] made = MeshLamps.class.getDeclaredConstructors();
        Check.due("one constructor", made.length, 1);
        Check.due("without arguments", made[0].getParameterCount(), 0);
        Check.due("public", Modifier.isPublic(made[0].getModifiers()));
    }

    @Says(in = "The public face", text = "public int ")
    private static void theMethods() {
        Check.same("methods", methods().toString(), new TreeSet<>(Set.of(METHODS)).toString());
    }

    private static Set<String> constants() throws IllegalAccessException {
        Set<String> seen = new TreeSet<>();
        for (Field field : MeshLamps.class.getDeclaredFields()) {
            if (!Modifier.isPrivate(field.getModifiers())) {
                boolean constant = field.getModifiers() == (Modifier.PUBLIC | Modifier.STATIC | Modifier.FINAL)
                    && field.getType() == int.class;
                seen.add(constant ? field.getName() + "=" + field.getInt(null) : "not a constant: " + field);
            }
        }
        return seen;
    }

    private static Set<String> methods() {
        Set<String> seen = new TreeSet<>();
        for (Method method : MeshLamps.class.getDeclaredMethods()) {
            if (!Modifier.isPrivate(method.getModifiers())) {
                boolean asTold = method.getModifiers() == Modifier.PUBLIC && method.getReturnType() == int.class;
                for (Class<?> type : method.getParameterTypes()) {
                    asTold &= type == int.class;
                }
                seen.add(asTold ? method.getName() + "/" + method.getParameterCount() : "not as told: " + method);
            }
        }
        return seen;
    }
}
