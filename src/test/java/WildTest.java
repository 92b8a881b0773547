import java.lang.reflect.Method;
import java.lang.reflect.Modifier;
import java.util.Arrays;
import java.util.Comparator;
import java.util.Random;

/** Calls of all kinds with wild arguments, 512 on each object: nothing may be thrown, and refusals change nothing. */
public final class WildTest {
    private static final Check CHECK = new Check();
    private static final int OBJECTS = 1500;
    private static final int CALLS = 512;
    private static final int[] EDGES = {Integer.MIN_VALUE, Integer.MIN_VALUE + 1, -100, -14, -2, -1, 0, 1, 2, 3, 4, 5, 6,
        7, 9, 10, 20, 21, 29, 30, 31, 32, 39, 40, 41, 64, 99, 100, 159, 160, 255, 256, 1 << 29, (1 << 30) - 1, 1 << 30,
        Integer.MAX_VALUE - 1, Integer.MAX_VALUE};

    public static void main(String[] args) throws ReflectiveOperationException {
        Method[] calls = calls();
        for (int seed = 0; seed < OBJECTS; seed++) {
            run(calls, new Random(seed));
        }
        CHECK.close();
    }

    private static Method[] calls() {
        Method[] calls = Arrays.stream(NumbersInherited.class.getDeclaredMethods())
            .filter(m -> Modifier.isPublic(m.getModifiers())).toArray(Method[]::new);
        Arrays.sort(calls, Comparator.comparing(Method::getName));
        return calls;
    }

    private static void run(Method[] calls, Random random) throws ReflectiveOperationException {
        NumbersInherited x = new NumbersInherited();
        for (int i = 0; i < CALLS; i++) {
            Method call = calls[random.nextInt(calls.length)];
            Object[] arguments = new Object[call.getParameterCount()];
            for (int k = 0; k < arguments.length; k++) {
                arguments[k] = argument(random);
            }
            long before = state(x);
            long answer = ((Number) call.invoke(x, arguments)).longValue();
            boolean refused = answer == -2 || answer == -3 || answer == -4 || answer == -11 || answer == -13
                || answer == -14 || answer == NumbersInherited.NO;
            // No SUM, WORTH or NUMBER is below 0 but for NONE; -12 and a FAULT may have changed what there was.
            if (refused) {
                CHECK.due(call.getName() + Arrays.toString(arguments) + " refused: state", state(x), before);
            }
            feedSometimes(x, random);
        }
    }

    private static int argument(Random random) {
        int sort = random.nextInt(10);
        return sort < 6 ? random.nextInt(7) : sort < 8 ? EDGES[random.nextInt(EDGES.length)]
            : sort < 9 ? random.nextInt(100) : random.nextInt();
    }

    private static void feedSometimes(NumbersInherited x, Random random) {
        if (random.nextInt(60) == 0) {
            x.text();
            Check.text(x, "says n*more-" + random.nextInt(100) + ";meant n<day+20;worth n-many*heir;");
        }
    }

    private static long state(NumbersInherited x) {
        long hash = 17;
        for (int what = 0; what < 5; what++) {
            hash = 31 * hash + x.count(what);
        }
        for (int heir = 0; heir < 6; heir++) {
            for (int what = 0; what < 6; what++) {
                hash = 31 * hash + x.told(heir, what);
            }
        }
        return hash;
    }
}
