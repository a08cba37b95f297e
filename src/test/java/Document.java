import java.io.IOException;
import java.nio.file.Files;
import java.nio.file.Path;
import java.util.ArrayList;
import java.util.LinkedHashMap;
import java.util.List;
import java.util.Map;

/** The document by its sections, and which of its words a test has quoted. */
final class Document {
    private static final Path PLACE = Path.of("../shared/DOC.md");

    private final Map<String, String> sections = new LinkedHashMap<>();
    private final Map<String, boolean[]> quoted = new LinkedHashMap<>();

    Document() throws IOException {
        for (String part : Files.readString(PLACE).split("(?m)^## ")) {
            String heading = part.lines().findFirst().orElse("");
            String name = heading.startsWith("Promise ") ? heading.replaceAll(":.*", "") : heading;
            String body = promisesOf(part.substring(heading.length()));
            sections.put(name, body);
            quoted.put(name, new boolean[body.length()]);
        }
    }

    /** A section's words without what promises nothing: signatures, fences, headings inside it. */
    private static String promisesOf(String body) {
        return body.replaceAll("(?m)^Ahead of the calls .*$", " ")
                .replaceAll("(?m)^```\\w*$", " ")
                .replaceAll("(?s)^\\s*`[^`]*`:", " ")
                .replaceAll("(?s)^.*======== 1 ", " ")
                .replaceAll("======== 2 READING:", " ")
                .replaceAll("\\s+", " ");
    }

    /** Notes that a test looks at these words; false: they do not stand there. */
    boolean quote(String section, String words) {
        String body = sections.getOrDefault(section, "");
        int from = body.indexOf(words);
        if (from < 0 || words.isEmpty()) {
            return false;
        }
        for (; from >= 0; from = body.indexOf(words, from + 1)) {
            for (int i = from; i < from + words.length(); i++) {
                quoted.get(section)[i] = true;
            }
        }
        return true;
    }

    /** Words of the sections that promise something, but that no test has quoted. */
    List<String> unquoted() {
        List<String> rest = new ArrayList<>();
        for (String section : sections.keySet()) {
            if (section.startsWith("Promise ") || section.equals("Terms") || section.equals("What it is")) {
                StringBuilder left = new StringBuilder();
                for (int i = 0; i < sections.get(section).length(); i++) {
                    left.append(quoted.get(section)[i] ? '\n' : sections.get(section).charAt(i));
                }
                for (String words : left.toString().split("\n+")) {
                    if (words.matches(".*\\w.*")) {
                        rest.add(section + ": " + words.strip());
                    }
                }
            }
        }
        return rest;
    }

    int promises() {
        return (int) sections.keySet().stream().filter(name -> name.startsWith("Promise ")).count();
    }
}
