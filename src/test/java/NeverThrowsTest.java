import java.lang.reflect.InvocationTargetException;
import java.lang.reflect.Method;
import java.lang.reflect.Modifier;
import java.util.ArrayList;
import java.util.Arrays;
import java.util.Comparator;
import java.util.List;
import java.util.Random;

/** LANGUAGE.md, rule 7: no call throws or fails to end, whatever its arguments, in whatever state calls have left the object. */
public final class NeverThrowsTest {
    private static final int RUNS = 400;
    private static final int CALLS = 512;
    // Some more than fullOfAll() makes.
    private static final int FIRST_CALLS = 150;
    private static final int[] EDGES = {Integer.MIN_VALUE, Integer.MIN_VALUE + 1, -1000, -41, -40, -3, -2, -1, 0, 1, 2, 3, 4, 5, 6, 7, 8, 15, 16, 17,
        20, 21, 31, 39, 40, 41, 60, 61, 99, 100, 101, 127, 128, 200, 201, 255, 256, 1000, Integer.MAX_VALUE - 1, Integer.MAX_VALUE};

    public static void main(String[] args) throws Exception {
        List<Method> methods = new ArrayList<>();
        for (Method method : PedlarPack.class.getDeclaredMethods()) {
            if (Modifier.isPublic(method.getModifiers())) {
                methods.add(method);
            }
        }
        methods.sort(Comparator.comparing(Method::getName));
        int thrown = 0;
        for (int run = 0; run < RUNS; run++) {
            thrown += throwsIn(run, methods) ? 1 : 0;
        }
        System.out.println(thrown + " of " + RUNS + " runs of " + CALLS + " calls had one that threw");
        if (thrown > 0) {
            System.exit(1);
        }
    }

    /** With the longest ROW, the heaviest PACK, as many OPEN FARMS as may be, and all SHEETS full. */
    private static PedlarPack fullOfAll() {
        PedlarPack x = new PedlarPack();
        int[] chances = {16, 9, 3, 12, 12, 1, 15, 1, 0, 16, 16, 16, 7, 6, 5, 4, 4, 4};
        Checks.lay(x, 0, chances);
        for (int farm = 1; farm <= 7; farm++) {
            x.road(farm - 1, farm, farm);
            x.read(0, farm);
        }
        for (int thing = 0; thing < 6; thing++) {
            Checks.thing(x, thing, 9, 20 - thing, 99, 11, 40, 99);
        }
        Checks.row(x, 7, 6, 5, 4, 3, 2, 1);
        Checks.pack(x, 4, 4, 4, 4, 4, 4);
        x.set(0, 200);
        x.set(1, 100);
        x.set(2, 31);
        for (int s = 0; s < 4; s++) {
            x.sheet(s, s % 3, 40);
        }
        return x;
    }

    private static boolean throwsIn(int seed, List<Method> methods) throws IllegalAccessException {
        Random random = new Random(seed);
        PedlarPack x = seed % 2 == 0 ? new PedlarPack() : fullOfAll();
        List<String> told = new ArrayList<>();
        // From wild runs, where most is refused, to tame ones, where most is not.
        int tame = seed % 10;
        for (int call = seed % 2 == 0 ? 0 : FIRST_CALLS; call < CALLS; call++) {
            Method method = methods.get(random.nextInt(methods.size()));
            Object[] arguments = new Object[method.getParameterCount()];
            for (int i = 0; i < arguments.length; i++) {
                arguments[i] = random.nextInt(10) < tame ? random.nextInt(7) : EDGES[random.nextInt(EDGES.length)];
            }
            told.add(method.getName() + Arrays.toString(arguments));
            try {
                method.invoke(x, arguments);
            } catch (InvocationTargetException e) {
                System.out.println("run " + seed + ": " + e.getCause() + " by the last of " + String.join(" ", told));
                return true;
            }
        }
        return false;
    }
}
