import java.io.IOException;
import java.io.UncheckedIOException;
import java.lang.reflect.InvocationTargetException;
import java.lang.reflect.Method;
import java.util.Arrays;
import java.util.HashMap;
import java.util.Map;
import java.util.Set;

/**
 * What the tests of boundary cases share: each quotes the sentence of the document that it is for,
 * and calls are written as they are told in a run, "type(0, 65)".
 */
abstract class Edge extends Marks {
    private static final Check CHECK = new Check();
    private static final Document DOCUMENT = document();
    private static final Map<String, Method> METHODS = methods();
    private static String section = "";

    private static Document document() {
        try {
            return new Document();
        } catch (IOException e) {
            throw new UncheckedIOException(e);
        }
    }

    private static Map<String, Method> methods() {
        Map<String, Method> byName = new HashMap<>();
        for (Method m : DotSquares.class.getMethods()) {
            if (m.getDeclaringClass() == DotSquares.class) {
                byName.put(m.getName(), m);
            }
        }
        return byName;
    }

    /** The section of the document out of which the next sentences are. */
    static void section(String name) {
        section = name;
    }

    /** What follows is for these words of the document; they must stand there as they are here. */
    static void says(String words) {
        CHECK.part(section + ", \"" + words + "\"");
        holds("the document says so", DOCUMENT.quote(section, words));
    }

    /** The names of all calls. */
    static Set<String> calls() {
        return METHODS.keySet();
    }

    static long answer(DotSquares x, String call) {
        int open = call.indexOf('(');
        String inside = call.substring(open + 1, call.length() - 1);
        Object[] arguments = inside.isBlank() ? new Object[0]
                : Arrays.stream(inside.split(",")).map(n -> Integer.valueOf(n.strip())).toArray();
        try {
            return ((Number) METHODS.get(call.substring(0, open)).invoke(x, arguments)).longValue();
        } catch (IllegalAccessException | InvocationTargetException e) {
            throw new IllegalStateException(call, e);
        }
    }

    static void due(DotSquares x, String call, long want) {
        CHECK.due(call, answer(x, call), want);
    }

    static void equal(String what, long got, long want) {
        CHECK.due(what, got, want);
    }

    static void holds(String what, boolean isSo) {
        CHECK.holds(what, isSo);
    }

    static void go(DotSquares x, String... calls) {
        for (String call : calls) {
            answer(x, call);
        }
    }

    /** Acts change what is answered whether it was asked ahead of them or not. */
    static void asIfNeverAsked(String... acts) {
        DotSquares asked = new DotSquares();
        for (int n = 1; n <= acts.length; n++) {
            asked.digest();
            go(asked, acts[n - 1]);
            DotSquares fresh = new DotSquares();
            go(fresh, Arrays.copyOf(acts, n));
            equal("digest() behind " + acts[n - 1], asked.digest(), fresh.digest());
        }
    }

    /** Numbers that are not 0 to ahead of a bound; some would be, if their lowest bits were all. */
    static int[] outside(int bound) {
        return new int[] {-1, -bound, LEAST, LEAST + 1, bound, bound + 1, 256 + bound, 65536, MOST};
    }

    /** The same for a number that may be NONE as well. */
    static int[] outsideAndNotNone(int bound) {
        return new int[] {-2, -bound - 1, LEAST, LEAST + 1, bound, bound + 1, 256 + bound, 65536, MOST};
    }

    static void finish(String test) {
        CHECK.part("the document");
        equal("promises", DOCUMENT.promises(), 31);
        for (String words : DOCUMENT.unquoted()) {
            holds("a test for " + words, false);
        }
        CHECK.finish(test);
    }
}
