import java.lang.reflect.Method;
import java.lang.reflect.Modifier;
import java.util.Arrays;
import java.util.Comparator;
import java.util.List;
import java.util.Random;

/**
 * Calls of all kinds with wild arguments: nothing may be thrown; and an object of which something was refused answers
 * on as one that was never asked for it, so that refusals change nothing.
 */
public final class WildTest {
    private static final Check CHECK = new Check();
    private static final int PAIRS = 3000;
    private static final List<String> OWN_METHODS = List.of("left", "next");
    private static final int[] EDGES = {Integer.MIN_VALUE, Integer.MIN_VALUE + 1, -100, -14, -2, -1, 0, 1, 2, 3, 4, 5, 6,
        7, 9, 10, 20, 21, 29, 30, 31, 32, 39, 40, 41, 64, 99, 100, 159, 160, 255, 256, 1 << 29, (1 << 30) - 1, 1 << 30,
        Integer.MAX_VALUE - 1, Integer.MAX_VALUE};

    private final Random random;
    private final Counted asked = new Counted();
    private final Counted spared = new Counted();

    private WildTest(int seed) {
        random = new Random(seed);
    }

    public static void main(String[] args) throws ReflectiveOperationException {
        Method[] calls = calls();
        for (int seed = 0; seed < PAIRS; seed++) {
            new WildTest(seed).run(calls);
        }
        CHECK.close();
    }

    private static Method[] calls() {
        Method[] calls = Arrays.stream(Counted.class.getDeclaredMethods())
            .filter(m -> !m.isSynthetic() && !Modifier.isPrivate(m.getModifiers()))
            .filter(m -> !OWN_METHODS.contains(m.getName())).toArray(Method[]::new);
        Arrays.sort(calls, Comparator.comparing(Method::getName));
        CHECK.due("methods of the face", calls.length, 28);
        return calls;
    }

    private void run(Method[] calls) throws ReflectiveOperationException {
        if (random.nextBoolean()) {
            String text = "says n*more-" + random.nextInt(100) + ";meant n<day+20;worth n-many*heir;";
            Check.text(asked, text);
            Check.text(spared, text);
        }
        while (asked.left() > Scene.SEEN) {
            Method call = calls[random.nextInt(calls.length)];
            Object[] arguments = new Object[call.getParameterCount()];
            for (int k = 0; k < arguments.length; k++) {
                arguments[k] = argument();
            }
            long answer = ((Number) call.invoke(asked, arguments)).longValue();
            if (!isRefused(call, answer)) {
                long other = ((Number) call.invoke(spared, arguments)).longValue();
                CHECK.due(call.getName() + Arrays.toString(arguments), answer, other);
            }
        }
        CHECK.isSo("what was asked of it and refused changed nothing", Scene.seen(asked).equals(Scene.seen(spared)));
    }

    // heirs() answers -12, text() a FAULT, with what they changed.
    private static boolean isRefused(Method call, long answer) {
        return answer == -2 || answer == -3 || answer == -4 || answer == -11 || answer == -13 || answer == -14
            || answer == -12 && !call.getName().equals("heirs") || answer == NumbersInherited.NO;
    }

    private int argument() {
        int sort = random.nextInt(10);
        return sort < 6 ? random.nextInt(7) : sort < 8 ? EDGES[random.nextInt(EDGES.length)]
            : sort < 9 ? random.nextInt(100) : random.nextInt();
    }
}
