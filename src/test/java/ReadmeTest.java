import java.io.IOException;
import java.nio.charset.StandardCharsets;
import java.nio.file.Files;
import java.nio.file.Path;
import java.util.regex.Matcher;
import java.util.regex.Pattern;

/** The example of README.md: each call answers the number that its comment begins with. */
public final class ReadmeTest {
    private static final Path PAGE = Path.of("README.md");
    private static final Pattern EXAMPLE =
        Pattern.compile("(?s)```java\n(MovingHeap heap = new MovingHeap\\(\\);\n.*?)```");
    private static final Pattern LINE =
        Pattern.compile("(?:long \\w+ = )?heap\\.(\\w+)\\(([^)]*)\\); +// (?:point )?(-?\\d+)[:,].*");

    private ReadmeTest() {
    }

    public static void main(String[] args) throws IOException {
        Matcher example = EXAMPLE.matcher(Files.readString(PAGE, StandardCharsets.UTF_8));
        boolean found = example.find();
        Due.holds("README.md has an example", found);
        String[] lines = found ? example.group(1).split("\n") : new String[0];
        MovingHeap x = new MovingHeap();
        // The first line makes the object.
        for (int i = 1; i < lines.length; i++) {
            Matcher line = LINE.matcher(lines[i]);
            boolean told = line.matches();
            Due.holds("an answer is told in: " + lines[i], told);
            if (told) {
                answer(x, line.group(1), line.group(2), Long.parseLong(line.group(3)));
            }
        }
        Due.finish();
    }

    private static void answer(MovingHeap x, String name, String list, long due) {
        String[] texts = list.isEmpty() ? new String[0] : list.split(", ");
        int[] arguments = new int[texts.length];
        for (int i = 0; i < texts.length; i++) {
            arguments[i] = Integer.parseInt(texts[i]);
        }
        for (Call call : Call.values()) {
            if (call.text(new int[call.arguments()]).startsWith(name + "(")) {
                Due.is(call.text(arguments), call.on(x, arguments), due);
                return;
            }
        }
        Due.holds(name + " is a call", false);
    }
}
