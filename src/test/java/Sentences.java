import java.io.IOException;
import java.nio.file.Files;
import java.nio.file.Path;
import java.util.ArrayList;
import java.util.HashMap;
import java.util.HashSet;
import java.util.List;
import java.util.Map;
import java.util.Set;
import java.util.function.Consumer;

/** Tests sentence by sentence: each names a part of the document and words that must stand in it. */
final class Sentences {
    private static final Map<String, String> PARTS = new HashMap<>();
    private static final Set<String> NAMED = new HashSet<>();
    private static final List<LoggedBench> BENCHES = new ArrayList<>();
    private static String now = "no sentence";
    private static int sentences = 0;

    private Sentences() {
    }

    static String now() {
        return now;
    }

    static void made(LoggedBench bench) {
        BENCHES.add(bench);
    }

    /** Takes the document apart: its headings, and the four numbered parts of "Terms". */
    static void open(String document) throws IOException {
        StringBuilder body = new StringBuilder();
        String part = "";
        for (String line : Files.readAllLines(Path.of(document))) {
            boolean term = line.startsWith("==== ");
            if (term || line.startsWith("## ")) {
                PARTS.put(part, spaced(body));
                body.setLength(0);
                part = term ? "Terms " + line.charAt(5) : line.substring(3).replaceAll(":.*", "");
            }
            body.append(line).append('\n');
        }
        PARTS.put(part, spaced(body));
    }

    private static String spaced(CharSequence text) {
        return text.toString().replaceAll("\\s+", " ");
    }

    static void of(String part, String words, Consumer<LoggedBench> test) {
        now = part + ", '" + words + "'";
        Check.due(now + " stands in the document", PARTS.getOrDefault(part, "").contains(words), true);
        NAMED.add(part);
        sentences++;
        BENCHES.clear();
        test.accept(new LoggedBench());
        int calls = 0;
        for (LoggedBench bench : BENCHES) {
            bench.again();
            calls += bench.howManyCalls();
        }
        Check.due(now + " is tested", calls > 0, true);
    }

    static void close(String name, String... parts) {
        now = "the end";
        for (String part : parts) {
            Check.due(part + " has a test of its own", NAMED.contains(part), true);
        }
        Check.close(name + ", " + sentences + " sentences");
    }
}
