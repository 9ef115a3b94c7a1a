import java.io.IOException;
import java.nio.file.Files;
import java.nio.file.Path;
import java.util.HashMap;
import java.util.Map;
import java.util.Set;
import java.util.TreeSet;
import java.util.regex.Matcher;
import java.util.regex.Pattern;

/** README's example: each call has the answer that stands behind it. Its table of refusals tells their numbers. */
public final class ReadmeTest {
    private static final Pattern CALL = Pattern.compile("(?:int (\\w+) = )?town\\.(\\w+)\\((.*?)\\); *// (-?\\d+).*");
    private static final Pattern REFUSAL = Pattern.compile("\\| `([A-Z]+)` \\| (-\\d+) \\|.*");
    private static final Map<String, Integer> NAMED = new HashMap<>();

    public static void main(String[] args) throws IOException {
        Play town = new Play();
        Set<String> refusals = new TreeSet<>();
        for (String line : Files.readAllLines(Path.of("README.md"))) {
            Matcher call = CALL.matcher(line);
            Matcher refusal = REFUSAL.matcher(line);
            if (call.matches()) {
                Check.due(0, line, answer(town, call), Integer.parseInt(call.group(4)));
            } else if (line.contains("town.")) {
                Check.same("a call without its answer", line, "");
            }
            if (refusal.matches()) {
                refusals.add(refusal.group(1) + refusal.group(2));
            }
        }
        Check.same("the example", NAMED.isEmpty() ? "is not there" : "is there", "is there");
        Check.same("the refusals", String.join(" ", refusals), "FULL-4 NO-5 OUTSIDE-2 STATE-3 UNKNOWN-1");
        Check.end();
    }

    private static int answer(Play town, Matcher call) {
        String[] words = call.group(3).isEmpty() ? new String[0] : call.group(3).split(", ");
        Object[] numbers = new Object[words.length];
        for (int place = 0; place < words.length; place++) {
            numbers[place] = numberOf(words[place]);
        }
        int answer = town.call(call.group(2), numbers);
        if (call.group(1) != null) {
            NAMED.put(call.group(1), answer);
        }
        return answer;
    }

    private static Object numberOf(String word) {
        if (word.equals("true") || word.equals("false")) {
            return word.equals("true");
        }
        return NAMED.containsKey(word) ? NAMED.get(word) : Integer.valueOf(word);
    }
}
