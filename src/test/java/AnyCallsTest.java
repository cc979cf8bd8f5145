import java.lang.reflect.Method;
import java.lang.reflect.Modifier;
import java.util.ArrayList;
import java.util.Comparator;
import java.util.List;
import java.util.Random;

/** Calls with any arguments in any state, on and on: none may throw, and int answers that are ERRORS are counted by told. */
public final class AnyCallsTest {
    private static final int OBJECTS = 150;
    private static final int CALLS = 2000;
    private static final long[] EDGES = {Long.MIN_VALUE, Long.MAX_VALUE, Integer.MIN_VALUE, Integer.MIN_VALUE + 1, -1000000000, -999999999,
        -10, -9, -2, -1, 0, 1, 2, 3, 4, 5, 6, 7, 8, 9, 10, 11, 12, 13, 16, 20, 21, 24, 32, 40, 41, 47, 48, 49, 64, 65, 100, 999999999,
        1000000000, Integer.MAX_VALUE - 1, Integer.MAX_VALUE};

    private AnyCallsTest() {
    }

    private static List<Method> face() {
        List<Method> face = new ArrayList<>();
        for (Method m : StrandTangles.class.getDeclaredMethods()) {
            if (Modifier.isPublic(m.getModifiers())) {
                face.add(m);
            }
        }
        face.sort(Comparator.comparing(Method::getName));
        return face;
    }

    private static long[] drawn(Random random, int n) {
        long[] args = new long[n];
        for (int i = 0; i < n; i++) {
            int luck = random.nextInt(10);
            args[i] = luck == 0 ? random.nextLong() : luck < 3 ? EDGES[random.nextInt(EDGES.length)] : random.nextInt(6);
        }
        return args;
    }

    public static void main(String[] args) {
        Checks checks = new Checks();
        List<Method> face = face();
        for (int seed = 0; seed < OBJECTS; seed++) {
            Random random = new Random(seed);
            StrandTangles object = new StrandTangles();
            long refused = 0;
            for (int i = 0; i < CALLS; i++) {
                Method m = face.get(random.nextInt(face.size()));
                long answer = Caller.ask(object, m.getName(), drawn(random, m.getParameterCount()));
                boolean any = m.getName().equals("seed") || m.getName().equals("count") || m.getName().equals("of");
                boolean error = m.getReturnType() == int.class ? answer < -1000000000L : answer < -9000000000000000000L;
                if (any || error) {
                    long told = 0;
                    for (int k = 1; k <= 6; k++) {
                        told += object.told(k);
                    }
                    // Of these three any number may be an answer, so only told says whether it was an ERROR.
                    refused += any ? told - refused : 1;
                    checks.due("seed " + seed + ", call " + i + ", " + m.getName() + ": refused calls", told, refused);
                }
            }
        }
        checks.end();
    }
}
