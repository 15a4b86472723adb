import java.io.IOException;
import java.nio.file.Files;
import java.nio.file.Path;
import java.util.Map;
import java.util.regex.Matcher;
import java.util.regex.Pattern;

/** The example in README.md: each call answers what its comment begins with. */
public final class ReadmeTest {
    private static final Pattern LINE = Pattern.compile("x\\.(\\w+)\\(([^)]*)\\);\\s*// (\\w+).*");
    private static final Map<String, Integer> REFUSALS = Map.of(
        "BAD", StreamAssembler.BAD, "FLOW", StreamAssembler.FLOW, "FINAL", StreamAssembler.FINAL,
        "NOTHING", StreamAssembler.NOTHING, "ENDED", StreamAssembler.ENDED);

    public static void main(String[] args) throws IOException {
        Due.sentence("README.md, the example");
        StreamAssembler x = new StreamAssembler();
        int calls = 0;
        for (String line : Files.readAllLines(Path.of("README.md"))) {
            Matcher matcher = LINE.matcher(line);
            if (matcher.matches()) {
                String answer = matcher.group(3);
                int want = REFUSALS.containsKey(answer) ? REFUSALS.get(answer) : Integer.decode(answer);
                Due.due(line, call(matcher.group(1), matcher.group(2).split(", ")).on(x), want);
                calls++;
            } else if (line.startsWith("x.")) {
                Due.fault("a line of the example that this test can't read: " + line);
            }
        }
        if (calls == 0) {
            Due.fault("there is no example");
        }
        Due.end();
    }

    private static Call call(String method, String[] arguments) {
        int[] numbers = new int[4];
        for (int k = 0; k < arguments.length; k++) {
            numbers[k] = Integer.decode(arguments[k]);
        }
        return new Call(method, numbers[0], numbers[1], numbers[2], numbers[3]);
    }
}
