import java.util.ArrayList;
import java.util.List;
import java.util.Random;

/** Texts at random: most of them without a FAULT, some with one, some about as long as they can be. */
final class Texts {
    private static final String[] VARS = {"weight", "thick", "step", "day", "wet", "up", "gone"};
    private static final String[] ODD = {";", "=", "+", "-", "*", "/", "<", "(", ")", ".", "if", "then", "else", "law",
        "steps", "rain", "brine", "pilgrim", "plain", "knees", "long", "stays", "thick", "0", "7", "100", "9999", "12345",
        "ann", "abcdefgh", "abcdefghi", "A", "#", "\u00e9", "\u0000", "up", "wet"};

    private final Random random;
    private List<String> tokens;

    Texts(Random random) {
        this.random = random;
    }

    /** A text without a FAULT, but for what luck brings (one NAME twice is let happen seldom). */
    String fine(int pilgrims) {
        tokens = new ArrayList<>();
        steps();
        if (random.nextInt(4) != 0) {
            row("rain", random.nextInt(5), random.nextBoolean() ? 3 : 10);
        }
        if (random.nextInt(5) != 0) {
            add("brine", "" + random.nextInt(random.nextBoolean() ? 30 : 1000), "" + random.nextInt(100), ";");
        }
        for (int i = 0; i < pilgrims; i++) {
            add("pilgrim", name(i), "" + (1 + random.nextInt(random.nextBoolean() ? 4 : 30)), vow(), ";");
        }
        for (int i = random.nextInt(4); i > 0; i--) {
            law();
        }
        return joined();
    }

    /** A text of which any TOKEN may be off. */
    String spoilt() {
        fine(random.nextInt(10));
        if (random.nextInt(4) == 0) {
            row("steps", 20 + random.nextInt(8), 100);
            row("rain", 10 + random.nextInt(8), 10);
        }
        if (random.nextInt(4) == 0) {
            for (int i = random.nextInt(9); i > 0; i--) {
                law();
            }
        }
        if (random.nextInt(4) == 0) {
            deep();
        }
        if (random.nextInt(3) == 0) {
            while (tokens.size() < 396 + random.nextInt(8)) {
                add(random.nextInt(9) == 0 ? "steps" : "rain", "1", ";");
            }
        }
        for (int i = random.nextInt(3); i > 0 && !tokens.isEmpty(); i--) {
            int at = random.nextInt(tokens.size());
            switch (random.nextInt(3)) {
                case 0 -> tokens.set(at, ODD[random.nextInt(ODD.length)]);
                case 1 -> tokens.add(at, ODD[random.nextInt(ODD.length)]);
                default -> tokens.remove(at);
            }
        }
        return joined();
    }

    private void add(String... more) {
        tokens.addAll(List.of(more));
    }

    private void row(String word, int many, int below) {
        add(word);
        for (int i = 0; i < many; i++) {
            add("" + random.nextInt(below));
        }
        add(";");
    }

    private void steps() {
        int most = new int[] {5, 12, 30, 100}[random.nextInt(4)];
        row("steps", random.nextInt(5) == 0 ? random.nextInt(25) : random.nextInt(8), most);
    }

    private String name(int i) {
        return random.nextInt(60) == 0 ? "bob" : "bob" + (char) ('a' + i);
    }

    private String vow() {
        return Model.VOWS.get(random.nextInt(4));
    }

    private void law() {
        add("law", vow(), "=");
        for (int i = Math.max(0, random.nextInt(8) - 3); i > 0; i--) {
            add("if");
            sum(0);
            add("<");
            sum(0);
            add("then");
            sum(0);
            add("else");
        }
        sum(0);
        add(";");
    }

    private void deep() {
        int levels = 5 + random.nextInt(3);
        add("law", vow(), "=");
        for (int i = 0; i < levels; i++) {
            add("1", "+", "(");
        }
        add("2");
        for (int i = 0; i < levels; i++) {
            add(")");
        }
        add(";");
    }

    private void sum(int nested) {
        product(nested);
        while (random.nextInt(3) == 0) {
            add(random.nextBoolean() ? "+" : "-");
            product(nested);
        }
    }

    private void product(int nested) {
        unit(nested);
        while (random.nextInt(4) == 0) {
            add(random.nextBoolean() ? "*" : "/");
            unit(nested);
        }
    }

    private void unit(int nested) {
        int kind = random.nextInt(9);
        if (kind == 0 && nested < 6) {
            add("(");
            sum(nested + 1);
            add(")");
        } else if (kind < 5) {
            add(VARS[random.nextInt(VARS.length)]);
        } else {
            add("" + random.nextInt(random.nextInt(12) == 0 ? 10000 : 5));
        }
    }

    private String joined() {
        StringBuilder text = new StringBuilder();
        String last = ";";
        for (String token : tokens) {
            boolean meets = isWordy(last) && isWordy(token);
            if (meets || random.nextInt(3) == 0) {
                text.append(" \t\n\r".charAt(random.nextInt(40) < 37 ? 0 : random.nextInt(4)));
            }
            text.append(token);
            last = token;
        }
        return text.length() > 2000 ? text.substring(0, 2000) : text.toString();
    }

    private static boolean isWordy(String token) {
        return Character.isLetterOrDigit(token.charAt(0));
    }
}
