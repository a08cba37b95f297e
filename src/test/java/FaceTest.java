import java.io.IOException;
import java.lang.reflect.Constructor;
import java.lang.reflect.Field;
import java.lang.reflect.Method;
import java.lang.reflect.Modifier;
import java.nio.file.Files;
import java.nio.file.Path;
import java.util.Arrays;
import java.util.Set;
import java.util.TreeSet;
import java.util.regex.Matcher;
import java.util.regex.Pattern;

/** The public face as the document prints it, and the rules of LANGUAGE.md that a scan can see. */
public final class FaceTest {
    private static final Check CHECK = new Check();
    private static final Path SOURCE = Path.of("src/main/java/DotSquares.java");
    private static final String[] METHODS = {
        "int type(int,int)", "int wipe(int)", "int undo(int)", "int fault()", "int read(int)",
        "int field(int,int,int)", "int mark(int)", "int symbol(int,int)", "int dots(int,int)",
        "int penalty(int)", "int place(int,int,int)", "int turn(int,int)", "int lost(int,int)",
        "int back()", "int heal()", "int seen(int,int)", "int why()", "int told(int)",
        "int format(int)", "int block(int,int)", "int mended(int,int)", "int straw(int)",
        "int sheet(int,int,int)", "int lose(int)", "int lay(int,int,int,int)", "int get(int,int,int)",
        "int copy(int,int,int,int,int)", "int write(int,int)", "int count(int)", "long digest()"};

    public static void main(String[] args) throws IOException {
        CHECK.part("face");
        face();
        CHECK.part("nested classes");
        nested();
        CHECK.part("source");
        String whole = Files.readString(SOURCE);
        String code = whole.replaceAll("(?s)/\\*.*?\\*/", " ").replaceAll("//[^\n]*", " ");
        source(whole, code);
        CHECK.part("sizes");
        sizes(new Rules(code));
        CHECK.finish("FaceTest");
    }

    private static void face() {
        Set<String> met = new TreeSet<>();
        for (Method m : DotSquares.class.getDeclaredMethods()) {
            if (!Modifier.isPrivate(m.getModifiers())) {
                CHECK.holds(m.getName() + " is public", Modifier.isPublic(m.getModifiers()));
                String kinds = Arrays.toString(m.getParameterTypes()).replaceAll("[\\[\\] ]", "");
                met.add(m.getReturnType() + " " + m.getName() + "(" + kinds + ")");
            }
        }
        CHECK.holds("methods: " + met, met.equals(new TreeSet<>(Arrays.asList(METHODS))));
        Set<String> constants = new TreeSet<>();
        for (Field f : DotSquares.class.getDeclaredFields()) {
            if (!Modifier.isPrivate(f.getModifiers())) {
                constants.add(Modifier.toString(f.getModifiers()) + " " + f.getType() + " " + f.getName());
            }
        }
        String head = "public static final int ";
        CHECK.holds("constants: " + constants, constants.equals(new TreeSet<>(
                Set.of(head + "NONE", head + "BAD", head + "NOT", head + "FULL"))));
        Constructor<?>[] made = DotSquares.class.getDeclaredConstructors();
        CHECK.holds("one public constructor without arguments", made.length == 1
                && Modifier.isPublic(made[0].getModifiers()) && made[0].getParameterCount() == 0);
        CHECK.holds("final", Modifier.isFinal(DotSquares.class.getModifiers()));
    }

    private static void nested() {
        Set<String> names = new TreeSet<>();
        for (Method m : DotSquares.class.getDeclaredMethods()) {
            if (Modifier.isPublic(m.getModifiers())) {
                names.add(m.getName());
            }
        }
        Class<?>[] inside = DotSquares.class.getDeclaredClasses();
        CHECK.holds("some twelve classes", inside.length <= 11);
        for (Class<?> c : inside) {
            CHECK.holds(c + " is static", Modifier.isStatic(c.getModifiers()));
            for (Method m : c.getDeclaredMethods()) {
                CHECK.holds(m + " has a name of its own", !names.contains(m.getName()));
            }
            for (Field f : c.getDeclaredFields()) {
                CHECK.holds(f + " is final, if static",
                        !Modifier.isStatic(f.getModifiers()) || Modifier.isFinal(f.getModifiers()));
            }
        }
    }

    /** Rule 11. */
    private static void sizes(Rules rules) {
        int own = DotSquares.class.getDeclaredMethods().length;
        for (Class<?> c : DotSquares.class.getDeclaredClasses()) {
            own += c.getDeclaredMethods().length;
            long fields = Arrays.stream(c.getDeclaredFields()).filter(f -> !Modifier.isStatic(f.getModifiers())).count();
            CHECK.holds(c + " has some twenty fields", fields <= 20);
        }
        // methods are counted by names: what is not found by the scan would not be looked at
        CHECK.holds("methods are found: " + rules.methods() + " names of " + own, rules.methods() > own * 8 / 10);
        CHECK.holds("too long: " + rules.tooLong(), rules.tooLong().isEmpty());
        CHECK.holds("too many parameters: " + rules.tooManyParameters(), rules.tooManyParameters().isEmpty());
        CHECK.holds("calls go eight deep: " + rules.deepestChain(), rules.deepestChain().size() <= 8);
    }

    private static void source(String whole, String code) {
        for (String word : new String[] {"throw", "throws", "try", "catch", "synchronized", "assert",
            "import", "package", "protected", "native", "volatile"}) {
            CHECK.holds("no " + word, !Pattern.compile("\\b" + word + "\\b").matcher(code).find());
        }
        CHECK.holds("no lambda", !code.contains("->"));
        CHECK.holds("no method reference", !code.contains("::"));
        CHECK.holds("signs 1 to 126", whole.chars().allMatch(c -> c == '\n' || c >= 32 && c < 127));
        Matcher made = Pattern.compile("(?m)^ *(.*\\bnew\\b.*)$").matcher(code);
        while (made.find()) {
            String line = made.group(1);
            CHECK.holds("made once an object: " + line, line.startsWith("private final ")
                    || line.startsWith("final ") || line.matches("(sheets|blocks)\\[\\w+\\] = new \\w+\\(\\);"));
        }
    }
}
