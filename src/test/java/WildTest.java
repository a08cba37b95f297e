import java.lang.reflect.Method;
import java.lang.reflect.Modifier;
import java.util.ArrayList;
import java.util.Arrays;
import java.util.Comparator;
import java.util.List;
import java.util.Random;

/**
 * Runs of 512 calls, which is as long as an object is used, in any order and with any arguments:
 * calls are drawn alike, and their numbers by what is wild and not by what they mean. Every answer
 * is as Naive's is.
 */
public final class WildTest {
    private static final int RUNS = 90;
    private static final int CALLS = 512;
    private static final int[] EDGES = {Integer.MIN_VALUE, Integer.MIN_VALUE + 1, -65536, -256, -61, -16, -15, -3, -2, -1,
        0, 1, 2, 3, 4, 7, 8, 9, 11, 13, 14, 15, 16, 59, 60, 61, 127, 128, 255, 256, 257, 65535, 65536,
        Integer.MAX_VALUE - 1, Integer.MAX_VALUE};
    /** The bytes of the levels' names come up too seldom else. */
    private static final String LETTERS = "lowmidtop";

    private final Check check = new Check();
    private final List<Method> calls = new ArrayList<>();
    private final Random random;

    private WildTest(long seed) {
        random = new Random(seed);
        for (Method m : DotSquares.class.getDeclaredMethods()) {
            if (Modifier.isPublic(m.getModifiers())) {
                calls.add(m);
            }
        }
        // reflection tells them in no order that could be relied on
        calls.sort(Comparator.comparing(Method::getName));
    }

    public static void main(String[] args) throws ReflectiveOperationException {
        WildTest test = new WildTest(args.length > 0 ? Long.parseLong(args[0]) : 512);
        int runs = args.length > 1 ? Integer.parseInt(args[1]) : RUNS;
        test.check.part("calls");
        test.check.due("how many there are", test.calls.size(), 30);
        for (int run = 0; run < runs && test.check.wrong() == 0; run++) {
            test.run(run);
        }
        test.check.finish("WildTest");
    }

    private void run(int run) throws ReflectiveOperationException {
        DotSquares x = new DotSquares();
        Naive y = new Naive();
        for (int call = 1; call <= CALLS; call++) {
            Method m = call < CALLS ? anyCall() : DotSquares.class.getMethod("digest");
            Object[] arguments = new Object[m.getParameterCount()];
            for (int i = 0; i < arguments.length; i++) {
                arguments[i] = anyNumber(run % 3);
            }
            check.part("run " + run + ", call " + call);
            check.due(m.getName() + Arrays.toString(arguments), answer(m, x, arguments), answerOfNaive(m, y, arguments));
        }
    }

    /** Digests of Naive are slow: three of four are something else. */
    private Method anyCall() {
        Method m = calls.get(random.nextInt(calls.size()));
        boolean again = m.getName().equals("digest") && random.nextInt(4) != 0;
        return again ? calls.get(random.nextInt(calls.size())) : m;
    }

    /** The wilder a run, the fewer of its calls are more than refusals. */
    private int anyNumber(int wildness) {
        int kind = random.nextInt(10);
        if (kind < new int[] {0, 2, 7}[wildness]) {
            return EDGES[random.nextInt(EDGES.length)];
        }
        if (kind == 9) {
            return wildness == 2 ? random.nextInt() : LETTERS.charAt(random.nextInt(LETTERS.length()));
        }
        return random.nextInt(kind < 6 ? 3 : 16);
    }

    private static long answer(Method m, DotSquares x, Object[] arguments) throws ReflectiveOperationException {
        return ((Number) m.invoke(x, arguments)).longValue();
    }

    private static long answerOfNaive(Method m, Naive y, Object[] arguments) throws ReflectiveOperationException {
        Method same = Naive.class.getDeclaredMethod(m.getName(), m.getParameterTypes());
        return ((Number) same.invoke(y, arguments)).longValue();
    }
}
