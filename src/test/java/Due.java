import java.nio.charset.StandardCharsets;
import java.util.Arrays;

/** What the tests share: calls with the answers that are due, and texts put on the tape. */
final class Due {
    private static int wrong = 0;
    private static int asked = 0;
    private static String edge = "";

    private Due() {
    }

    static void due(String what, long got, long want) {
        asked++;
        if (got != want) {
            wrong++;
            System.out.println(edge + brief(what) + " answered " + got + ", due is " + want);
        }
    }

    static void due(String what, boolean got, boolean want) {
        due(what, got ? 1 : 0, want ? 1 : 0);
    }

    /** The words of the document that the answers from here on are held to. */
    static void edge(String words) {
        edge = words.isEmpty() ? "" : words + ": ";
    }

    private static String brief(String what) {
        return what.length() <= 200 ? what : what.substring(0, 100) + " .. " + what.substring(what.length() - 100);
    }

    static void end() {
        System.out.println(asked + " answers, " + wrong + " not as due");
        if (wrong != 0) {
            System.exit(1);
        }
    }

    static int[] fives(String text) {
        byte[] bytes = text.getBytes(StandardCharsets.ISO_8859_1);
        byte[] padded = Arrays.copyOf(bytes, (bytes.length + 19) / 20 * 20);
        Arrays.fill(padded, bytes.length, padded.length, (byte) ' ');
        int[] ints = new int[padded.length / 4];
        for (int i = 0; i < padded.length; i++) {
            ints[i / 4] = ints[i / 4] << 8 | padded[i] & 255;
        }
        return ints;
    }

    /** Puts a text on an empty tape: the blanks that fill the last twenty bytes go back where there is room for them. */
    static void put(SaltStairs stairs, String text) {
        int[] ints = fives(text);
        for (int i = 0; i + 4 < ints.length; i += 5) {
            stairs.feed(ints[i], ints[i + 1], ints[i + 2], ints[i + 3], ints[i + 4]);
        }
        stairs.back(stairs.count(8) - text.length());
    }

    static int read(SaltStairs stairs, String text) {
        put(stairs, text);
        return stairs.read();
    }

    static SaltStairs of(String text) {
        SaltStairs stairs = new SaltStairs();
        due("read of " + text, read(stairs, text), 0);
        return stairs;
    }
}
