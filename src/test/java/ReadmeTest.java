import java.io.IOException;
import java.nio.file.Files;
import java.nio.file.Path;
import java.util.List;
import java.util.regex.Matcher;
import java.util.regex.Pattern;

/** The example in README.md: each call answers what its comment begins with. */
public final class ReadmeTest {
    private static final Pattern EXAMPLE = Pattern.compile("d\\.(\\w+)\\((.*)\\); +// (-?\\d+): .*");

    private static final Check CHECK = new Check();

    public static void main(String[] args) throws IOException {
        DecodeTests d = new DecodeTests(4);
        List<String> lines = Files.readAllLines(Path.of("README.md"));
        CHECK.same("the object is the README's", lines.stream()
            .anyMatch(line -> line.startsWith("DecodeTests d = new DecodeTests(4);")), true);
        int calls = 0;
        for (String line : lines) {
            if (line.startsWith("d.")) {
                calls++;
                Matcher parts = EXAMPLE.matcher(line);
                boolean readable = parts.matches();
                CHECK.same(line + " can be read", readable, true);
                if (readable) {
                    int[] values = values(parts.group(2));
                    CHECK.same(line, answer(d, parts.group(1), values), Long.parseLong(parts.group(3)));
                }
            }
        }
        CHECK.same("there are examples", calls > 0, true);
        CHECK.end("ReadmeTest");
    }

    private static int[] values(String text) {
        String[] parts = text.split(", ");
        int[] values = new int[parts.length];
        for (int i = 0; i < values.length; i++) {
            values[i] = value(parts[i]);
        }
        return values;
    }

    /** A number as the example writes it: 0b1001, 1 << 3, or plain. */
    private static int value(String text) {
        if (text.startsWith("0b")) {
            return Integer.parseInt(text.substring(2), 2);
        }
        if (text.startsWith("1 << ")) {
            return 1 << Integer.parseInt(text.substring(5));
        }
        return Integer.parseInt(text);
    }

    private static int answer(DecodeTests d, String call, int[] v) {
        switch (call) {
            case "encoding": return d.encoding(v[0], v[1], v[2], v[3]);
            case "tried": return d.tried(v[0], v[1]);
            case "decode": return d.decode(v[0], v[1]);
            case "tests": return d.tests(v[0]);
            case "cost": return d.cost(v[0], v[1]);
            case "kind": return d.kind(v[0]);
            case "node": return d.node(v[0], v[1]);
            case "feed": return d.feed(v[0]);
            case "take": return d.take(v[0]);
            case "count": return d.count(v[0]);
            default: throw new IllegalArgumentException(call);
        }
    }
}
