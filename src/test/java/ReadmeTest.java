import java.io.IOException;
import java.lang.reflect.Method;
import java.lang.reflect.Modifier;
import java.net.URL;
import java.net.URLClassLoader;
import java.nio.file.Files;
import java.nio.file.Path;
import java.util.ArrayList;
import java.util.Comparator;
import java.util.List;
import java.util.regex.Matcher;
import java.util.regex.Pattern;
import java.util.stream.Stream;
import javax.tools.ToolProvider;

/** README.md: its Java is compiled and run, each answer as it says; its tables leave out no call and no test. */
public final class ReadmeTest {
    private static final Path PLACE = Path.of("README.md");
    private static final Pattern BLOCK = Pattern.compile("(?s)```java\n(.*?)```");
    private static final Pattern ANSWER = Pattern.compile("(?m)^([a-zA-Z.]+\\(.*\\)); +// (-?\\d+|true|false): .*$");

    /** Each call with the answer that is told. */
    private static final List<List<String>> WANTED = new ArrayList<>();

    private ReadmeTest() {
    }

    public static void main(String[] args) throws Exception {
        String readme = Files.readString(PLACE);
        Due.edge("README.md");
        calls(readme);
        tests(readme);
        run(source(readme));
        Due.end();
    }

    private static void calls(String readme) {
        for (Method m : SaltStairs.class.getDeclaredMethods()) {
            if (Modifier.isPublic(m.getModifiers())) {
                Due.due("names the call " + m.getName(), readme.contains("`" + m.getName() + "`"), true);
            }
        }
    }

    private static void tests(String readme) throws IOException {
        try (Stream<Path> files = Files.list(Path.of("src/test/java"))) {
            for (Path file : files.sorted().toList()) {
                String name = file.getFileName().toString().replace(".java", "");
                if (name.endsWith("Test")) {
                    Due.due("has a row for " + name, readme.contains("| `" + name + "` |"), true);
                }
            }
        }
        Matcher row = Pattern.compile("(?m)^\\| `(\\w+Test)` \\|").matcher(readme);
        while (row.find()) {
            Due.due("there is a " + row.group(1), Files.exists(Path.of("src/test/java", row.group(1) + ".java")), true);
        }
    }

    /** A class of all Java in the text, in which each line that tells an answer asks for it. */
    private static String source(String readme) {
        StringBuilder methods = new StringBuilder();
        StringBuilder calls = new StringBuilder();
        Matcher block = BLOCK.matcher(readme);
        while (block.find()) {
            (block.group(1).startsWith("static") ? methods : calls).append(block.group(1));
        }
        Matcher answer = ANSWER.matcher(calls);
        Due.due("answers are told", answer.results().count() > 9, true);
        String asking = answer.reset().replaceAll(r -> Matcher.quoteReplacement("answers.add(\"\" + " + r.group(1) + ");"));
        answer.reset().results().forEach(r -> WANTED.add(List.of(r.group(1), r.group(2))));
        return "public final class Readme {\n" + methods + "public static void ask(java.util.List<String> answers) {\n"
                + asking + "}\n}\n";
    }

    private static void run(String source) throws Exception {
        Path room = Files.createTempDirectory("readme");
        try {
            Path file = Files.writeString(room.resolve("Readme.java"), source);
            int compiled = ToolProvider.getSystemJavaCompiler().run(null, null, null,
                    "-cp", System.getProperty("java.class.path"), "-d", room.toString(), file.toString());
            Due.due("its Java is compiled", compiled, 0);
            if (compiled == 0) {
                ask(room);
            }
        } finally {
            clear(room);
        }
    }

    private static void ask(Path room) throws Exception {
        List<String> answers = new ArrayList<>();
        URL[] urls = {room.toUri().toURL()};
        try (URLClassLoader loader = new URLClassLoader(urls)) {
            loader.loadClass("Readme").getDeclaredMethod("ask", List.class).invoke(null, answers);
        }
        Due.due("answers", answers.size(), WANTED.size());
        for (int i = 0; i < Math.min(answers.size(), WANTED.size()); i++) {
            String told = WANTED.get(i).get(1);
            Due.due(WANTED.get(i).get(0) + " is " + answers.get(i) + ", told is " + told, answers.get(i).equals(told), true);
        }
    }

    private static void clear(Path room) throws IOException {
        try (Stream<Path> files = Files.walk(room)) {
            List<Path> last = files.sorted(Comparator.reverseOrder()).toList();
            for (Path file : last) {
                Files.delete(file);
            }
        }
    }
}
