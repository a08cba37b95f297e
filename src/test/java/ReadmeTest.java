import java.io.IOException;
import java.nio.file.Files;
import java.nio.file.Path;
import java.util.Set;
import java.util.TreeSet;
import java.util.regex.Matcher;
import java.util.regex.Pattern;

/** The examples of README.md, from its top down: each call answers what stands behind it. */
public final class ReadmeTest {
    private static final Pattern BLOCK = Pattern.compile("(?s)```java\n(.*?)```");
    private static final Pattern CALL = Pattern.compile("x\\.(\\w+\\([^()]*\\)); +// (-?\\d+)(?: .*)?");
    private static final Pattern LETTER = Pattern.compile("'(.)'");
    private static final Check CHECK = new Check();

    public static void main(String[] args) throws IOException {
        CHECK.part("README.md");
        String page = Files.readString(Path.of("README.md"));
        examples(page);
        everyCallIsNamed(page);
        CHECK.finish("ReadmeTest");
    }

    private static void examples(String page) {
        DotSquares x = null;
        int tried = 0;
        Matcher block = BLOCK.matcher(page);
        while (block.find()) {
            for (String line : block.group(1).split("\n")) {
                if (line.equals("DotSquares x = new DotSquares();")) {
                    x = new DotSquares();
                    continue;
                }
                Matcher call = CALL.matcher(line);
                boolean readable = call.matches();
                CHECK.holds("it can be tried: " + line, readable && x != null);
                if (readable && x != null) {
                    tried++;
                    CHECK.due(call.group(1), Edge.answer(x, plain(call.group(1))), Long.parseLong(call.group(2)));
                }
            }
        }
        CHECK.holds("there are examples", tried > 0);
    }

    /** Letters as the numbers that they are. */
    private static String plain(String call) {
        return LETTER.matcher(call).replaceAll(letter -> Integer.toString(letter.group(1).charAt(0)));
    }

    private static void everyCallIsNamed(String page) {
        Set<String> missing = new TreeSet<>(Edge.calls());
        missing.removeIf(name -> Pattern.compile("\\b" + name + "\\(").matcher(page).find());
        CHECK.holds("calls that the page does not show: " + missing, missing.isEmpty());
    }
}
