import java.io.IOException;
import java.nio.file.Files;
import java.nio.file.Path;
import java.util.Set;
import java.util.TreeSet;
import java.util.regex.Matcher;
import java.util.regex.Pattern;

/** The calls that README.md shows give the answers that stand beside them, and none is left out. */
public final class ReadmeTest {
    private static final Pattern SHOWN =
            Pattern.compile("map\\.(\\w+)\\((?:(-?\\d+)(?:, (-?\\d+))?)?\\); +// (-?\\d+)\\b.*");
    private static final Set<String> FACE = Set.of("put", "remove", "get", "place", "count", "sum",
            "removeAll", "seek", "jump", "next", "back", "key", "set");

    public static void main(String[] args) throws IOException {
        RedBlackMap map = new RedBlackMap();
        Set<String> shown = new TreeSet<>();
        for (String line : Files.readAllLines(Path.of("README.md"))) {
            if (!line.startsWith("map.")) {
                continue;
            }
            Matcher matcher = SHOWN.matcher(line);
            Check.holds("README.md shows a call with its answer: " + line, matcher.matches());
            if (matcher.matches()) {
                Call call = new Call(
                        matcher.group(1), numberOr0(matcher.group(2)), numberOr0(matcher.group(3)));
                Check.due("README.md: " + call, call.on(map), Long.parseLong(matcher.group(4)));
                shown.add(call.name());
            }
        }
        Check.holds("README.md shows every method, not only " + shown, shown.equals(FACE));
        Check.end();
    }

    private static int numberOr0(String digits) {
        return digits == null ? 0 : Integer.parseInt(digits);
    }
}
