import java.io.IOException;
import java.nio.file.Files;
import java.nio.file.Path;
import java.util.Set;
import java.util.TreeSet;
import java.util.regex.Matcher;
import java.util.regex.Pattern;

/** The calls that README.md shows answer what it tells, and each call of the face is named there. */
public final class ReadmeTest {
    private static final Path README = Path.of("README.md");
    private static final Pattern CALL = Pattern.compile("x\\.(\\w+)\\(([-0-9, ]*)\\); +// (-?\\d+): .+");
    private static final Pattern LETTERS = Pattern.compile("for \\(char letter : \"([^\"]+)\".* x\\.feed\\(letter\\); }");

    private static final CastlesAreAssessed X = new CastlesAreAssessed();
    private static int seen = 0;

    public static void main(String[] args) throws IOException {
        String text = Files.readString(README);
        for (String line : text.split("\\n")) {
            shown(line);
        }
        Check.holds("calls are shown", seen > 20);
        named(text);
        Check.ends();
    }

    private static void shown(String line) {
        Matcher call = CALL.matcher(line);
        Matcher letters = LETTERS.matcher(line);
        if (call.matches()) {
            seen++;
            Check.due(line, Calls.of(X, call.group(1), numbers(call.group(2))), Long.parseLong(call.group(3)));
        } else if (letters.matches()) {
            for (char letter : letters.group(1).toCharArray()) {
                X.feed(letter);
            }
        } else {
            Check.holds("is understood: " + line, !line.contains("x."));
        }
    }

    private static int[] numbers(String list) {
        if (list.isEmpty()) {
            return new int[0];
        }
        String[] words = list.split(", ");
        int[] numbers = new int[words.length];
        for (int i = 0; i < words.length; i++) {
            numbers[i] = Integer.parseInt(words[i]);
        }
        return numbers;
    }

    private static void named(String text) {
        Set<String> lacking = new TreeSet<>();
        for (String name : Calls.NAMES) {
            if (!text.contains("`" + name + "`")) {
                lacking.add(name);
            }
        }
        Check.holds("each call is named, not so: " + lacking, lacking.isEmpty());
    }
}
