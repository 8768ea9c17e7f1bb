import java.lang.reflect.InvocationTargetException;
import java.lang.reflect.Method;
import java.lang.reflect.Modifier;
import java.util.Arrays;
import java.util.Comparator;
import java.util.List;
import java.util.Map;
import java.util.Random;

/**
 * LANGUAGE.md, rule 7: no call throws or fails to end, for any arguments in any state. What an object answers after 512
 * calls is free, but it must answer; so these objects are used for far longer.
 */
public final class LongUseTest {
    private static final int CALLS = 50_000;
    private static final int[] FAR = {Integer.MIN_VALUE, Integer.MIN_VALUE + 1, -7, -6, -1, 64, 100, 101, 200, 201, 1 << 30,
        Integer.MAX_VALUE - 1, Integer.MAX_VALUE};

    // One of how many of these calls is done in a crowded run: with keys changed often hardly a letter is known, and with
    // ticks passing often THE AIR does not fill.
    private static final Map<String, Integer> RARE = Map.of("phase", 1000, "pass", 50, "settle", 50);

    private static int mostInAir = 0;
    private static int mostTold = 0;

    public static void main(String[] args) throws IllegalAccessException {
        for (int seed = 0; seed < 16; seed++) {
            MeshLamps mesh = new MeshLamps();
            if ((seed & 1) != 0) {
                linkAll(mesh);
            }
            if ((seed & 2) != 0) {
                tellAll(mesh);
            }
            use(mesh, new Random(seed), (seed & 4) != 0);
        }
        Check.due("the runs came to a full air", mostInAir >= 64);
        Check.due("the runs came to a last lamp that told all that it can", mostTold >= 200);
        Check.end();
    }

    private static void linkAll(MeshLamps mesh) {
        for (int pair = 0; pair < 100; pair++) {
            mesh.link(pair / 10, pair % 10, 1);
        }
    }

    private static void tellAll(MeshLamps mesh) {
        for (int n = 0; n < 2500; n++) {
            mesh.tell(n % 10, n % 14, n % 100, 1);
            mesh.pass(1);
        }
    }

    private static void use(MeshLamps mesh, Random random, boolean crowded) throws IllegalAccessException {
        List<Method> methods = methods();
        for (int i = 0; i < CALLS; i++) {
            Method method = methods.get(random.nextInt(methods.size()));
            if (crowded && random.nextInt(RARE.getOrDefault(method.getName(), 1)) != 0) {
                continue;
            }
            Object[] arguments = new Object[method.getParameterCount()];
            Arrays.setAll(arguments, which -> some(random));
            call(mesh, method, arguments);
            mostInAir = Math.max(mostInAir, mesh.count(3));
            mostTold = Math.max(mostTold, mesh.lamp(9, 3));
        }
    }

    private static void call(MeshLamps mesh, Method method, Object[] arguments) throws IllegalAccessException {
        String what = method.getName() + Arrays.toString(arguments);
        try {
            int answer = (int) method.invoke(mesh, arguments);
            Check.due(what + " answers no less than NONE", answer >= MeshLamps.NONE);
        } catch (InvocationTargetException e) {
            Check.due(what + " threw " + e.getCause(), false);
        }
    }

    private static int some(Random random) {
        return random.nextInt(8) == 0 ? FAR[random.nextInt(FAR.length)] : random.nextInt(random.nextBoolean() ? 2 : 14);
    }

    /** In an order that is the same each time, so that the runs are, too. */
    private static List<Method> methods() {
        return Arrays.stream(MeshLamps.class.getDeclaredMethods())
            .filter(method -> Modifier.isPublic(method.getModifiers()))
            .sorted(Comparator.comparing(Method::getName)).toList();
    }
}
