import java.io.IOException;
import java.nio.file.Files;
import java.nio.file.Path;
import java.util.HashMap;
import java.util.Map;
import java.util.regex.Matcher;
import java.util.regex.Pattern;

/** The examples of README.md: every call whose comment begins with an answer must give it. */
public final class ReadmeTest {
    private static final Pattern CALL =
            Pattern.compile("(?:int (\\w+) = )?vats\\.(\\w+)\\(([^)]*)\\);(?:\\s*// (-?\\w+)(?::.*)?)?");
    private static final String MAKES = "CapabilityVats vats = new CapabilityVats();";

    public static void main(String[] args) throws IOException {
        Map<String, String> names = new HashMap<>();
        CapabilityVats vats = null;
        boolean inExample = false;
        int examples = 0;
        for (String line : Files.readAllLines(Path.of("README.md"))) {
            if (line.startsWith("```")) {
                inExample = line.equals("```java");
            } else if (inExample && line.equals(MAKES)) {
                vats = new CapabilityVats();
                names.clear();
                examples++;
            } else if (inExample) {
                call(vats, names, line);
            }
        }
        Script.due("examples", examples, 3);
        Script.end();
    }

    private static void call(CapabilityVats vats, Map<String, String> names, String line) {
        Matcher call = CALL.matcher(line);
        if (!call.matches()) {
            Script.due(line, "is no call", "a call");
            return;
        }
        StringBuilder words = new StringBuilder(call.group(2));
        for (String argument : call.group(3).split(", ")) {
            words.append(' ').append(names.getOrDefault(argument, argument));
        }
        String answer = Script.answer(vats, words.toString().split(" "));
        if (call.group(1) != null) {
            names.put(call.group(1), answer);
        }
        if (call.group(4) != null) {
            Script.due(line, answer, call.group(4));
        }
    }
}
