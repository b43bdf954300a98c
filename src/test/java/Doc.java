import java.io.IOException;
import java.nio.file.Files;
import java.nio.file.Path;
import java.util.Arrays;
import java.util.LinkedHashMap;
import java.util.Map;
import java.util.regex.Matcher;
import java.util.regex.Pattern;

/** The document itself: each test of an edge quotes the words that it holds the class to, and none of them is left out. */
final class Doc {
    private static final Path PLACE = Path.of("../shared/DOC.md");
    private static final Map<String, String> PARTS = new LinkedHashMap<>();
    private static final Map<String, boolean[]> QUOTED = new LinkedHashMap<>();

    private Doc() {
    }

    /** Without the document at hand the answers are tested all the same, only not its words. */
    static void open() throws IOException {
        if (!Files.exists(PLACE)) {
            System.out.println("no " + PLACE + ": what is quoted is not looked up");
            return;
        }
        String all = Files.readString(PLACE).replace("```text", "").replace("```", "").replaceAll("\\s+", " ");
        parts(all, "==== (IV|I+)\\. (.*?)(?= ==== | ## )", "");
        parts(all, "## Promise (\\d+): \\w[\\w ]* `[^`]*`: (.*?)(?= ## )", "promise ");
        Due.due("four parts of terms and thirty promises", PARTS.size(), 34);
    }

    private static void parts(String all, String shape, String kind) {
        Matcher m = Pattern.compile(shape).matcher(all);
        while (m.find()) {
            PARTS.put(kind + m.group(1), m.group(2));
            QUOTED.put(kind + m.group(1), new boolean[m.group(2).length()]);
        }
    }

    /** What follows is held to these words of the terms ("I" .. "IV"). */
    static void term(String part, String words) {
        says(part, words);
    }

    /** What follows is held to these words of a promise. */
    static void promise(int number, String words) {
        says("promise " + number, words);
    }

    private static void says(String part, String words) {
        if (!PARTS.isEmpty()) {
            int from = PARTS.getOrDefault(part, "").indexOf(words);
            Due.edge("");
            Due.due(part + " says: " + words, from >= 0, true);
            if (from >= 0) {
                Arrays.fill(QUOTED.get(part), from, from + words.length(), true);
            }
        }
        Due.edge(part + ", \"" + words + "\"");
    }

    static void allIsQuoted() {
        Due.edge("");
        for (Map.Entry<String, String> part : PARTS.entrySet()) {
            boolean[] quoted = QUOTED.get(part.getKey());
            StringBuilder left = new StringBuilder();
            for (int i = 0; i < quoted.length; i++) {
                left.append(quoted[i] ? ' ' : part.getValue().charAt(i));
            }
            Due.due("words of " + part.getKey() + " that no test quotes: " + left.toString().trim(), left.toString().isBlank(), true);
        }
    }
}
