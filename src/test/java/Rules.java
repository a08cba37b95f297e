import java.util.ArrayList;
import java.util.LinkedHashMap;
import java.util.List;
import java.util.Map;
import java.util.Set;
import java.util.TreeSet;
import java.util.regex.Matcher;
import java.util.regex.Pattern;

/** The source cut into methods, for the rules of LANGUAGE.md that count: lengths, parameters, depth, fields. */
final class Rules {
    private static final Set<String> NO_CALLS = Set.of("if", "for", "while", "switch", "return", "super", "this");
    private static final Pattern HEAD = Pattern.compile(
            "(?m)^ {4,8}(?:public |private |static |final )*(?:[\\w\\[\\]]+ )?(\\w+)\\(([^()]*)\\) \\{$");
    private static final Pattern CALL = Pattern.compile("\\b([A-Za-z]\\w*)\\(");

    /** Methods of one name, whatever their class, are taken as one: that can only make calls look deeper. */
    private final Map<String, Set<String>> calls = new LinkedHashMap<>();
    private final List<String> tooLong = new ArrayList<>();
    private final List<String> tooManyParameters = new ArrayList<>();

    /** Of the source without its comments. */
    Rules(String code) {
        Matcher head = HEAD.matcher(code);
        while (head.find()) {
            String name = head.group(1);
            String body = bodyFrom(code, head.end());
            if (body.lines().count() > 60) {
                tooLong.add(name);
            }
            if (head.group(2).split(",").length > 7) {
                tooManyParameters.add(name);
            }
            Set<String> called = calls.computeIfAbsent(name, n -> new TreeSet<>());
            Matcher call = CALL.matcher(body);
            while (call.find()) {
                if (!NO_CALLS.contains(call.group(1))) {
                    called.add(call.group(1));
                }
            }
        }
    }

    private static String bodyFrom(String code, int start) {
        int open = 1;
        int at = start;
        while (open > 0 && at < code.length()) {
            char c = code.charAt(at);
            open += c == '{' ? 1 : c == '}' ? -1 : 0;
            at++;
        }
        return code.substring(start, at);
    }

    int methods() {
        return calls.size();
    }

    List<String> tooLong() {
        return tooLong;
    }

    List<String> tooManyParameters() {
        return tooManyParameters;
    }

    /** The longest chain of calls, the library's at its end counted as well; a ring of them is never that short. */
    List<String> deepestChain() {
        List<String> deepest = List.of();
        for (String name : calls.keySet()) {
            List<String> chain = chainFrom(name, 0);
            deepest = chain.size() > deepest.size() ? chain : deepest;
        }
        return deepest;
    }

    private List<String> chainFrom(String name, int depth) {
        List<String> longest = List.of();
        if (depth < 40) {
            for (String called : calls.getOrDefault(name, Set.of())) {
                List<String> chain = chainFrom(called, depth + 1);
                longest = chain.size() > longest.size() ? chain : longest;
            }
        }
        List<String> whole = new ArrayList<>(List.of(name));
        whole.addAll(longest);
        return whole;
    }
}
