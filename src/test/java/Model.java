import java.nio.charset.StandardCharsets;
import java.util.ArrayDeque;
import java.util.ArrayList;
import java.util.Arrays;
import java.util.Deque;
import java.util.HashMap;
import java.util.List;
import java.util.Map;
import java.util.Set;
import java.util.TreeMap;
import java.util.function.BiPredicate;
import java.util.regex.Matcher;
import java.util.regex.Pattern;

/** The document once more, in the plainest words and with all of the Java library: slow, and made apart from the class. */
final class Model {
    static final Set<String> WORDS = Set.of("steps", "rain", "brine", "pilgrim", "law", "if", "then", "else", "plain",
            "knees", "long", "stays", "weight", "thick", "step", "day", "wet", "up", "gone");
    static final List<String> VOWS = List.of("plain", "knees", "long", "stays");
    static final Pattern TOKEN = Pattern.compile("[a-z]+|[0-9]+|[^a-z0-9]");

    record Token(String text, int place) {
        boolean isInt() {
            return text.matches("[0-9]{1,4}");
        }

        boolean isName() {
            return text.matches("[a-z]{1,8}") && !WORDS.contains(text);
        }

        boolean is(String... texts) {
            return Arrays.asList(texts).contains(text);
        }

        int number() {
            return Integer.parseInt(text);
        }
    }

    record Pilgrim(String name, int weight, String vow) {
    }

    record Clause(List<Token> less, List<Token> than, List<Token> then) {
    }

    record Law(List<Clause> clauses, List<Token> last) {
    }

    /** What a text tells. */
    static final class Told {
        List<Integer> steps = new ArrayList<>();
        List<Integer> rain = new ArrayList<>();
        int brine;
        int growth;
        List<Pilgrim> pilgrims = new ArrayList<>();
        Map<String, Law> laws = new HashMap<>();

        int rainOf(int day) {
            return rain.isEmpty() ? 0 : rain.get(day % rain.size());
        }
    }

    static final class State implements Cloneable {
        List<Integer> thick = new ArrayList<>();
        List<Integer> borne = new ArrayList<>();
        int[] place = new int[8];
        int[] led = new int[8];
        int[] came = new int[8];
        boolean[] stuck = new boolean[8];
        int brine;
        int day;

        State twin() {
            State s = new State();
            s.thick = new ArrayList<>(thick);
            s.borne = new ArrayList<>(borne);
            s.place = place.clone();
            s.led = led.clone();
            s.came = came.clone();
            s.stuck = stuck.clone();
            s.brine = brine;
            s.day = day;
            return s;
        }

        int gone() {
            return (int) thick.stream().filter(t -> t == 0).count();
        }
    }

    static final class Fault extends Exception {
        private static final long serialVersionUID = 1;
        final int index;

        Fault(int index) {
            this.index = index;
        }
    }

    private String tape = "";
    private int faultPlace = -1;
    Told text = new Told();
    State now = new State();
    private Deque<State> past = new ArrayDeque<>();
    private final State[] slots = new State[3];
    private final List<int[]> told = new ArrayList<>();

    // ---- the tape and its faults

    int feed(int... five) {
        if (tape.length() + 20 > 2000) {
            return -1;
        }
        StringBuilder more = new StringBuilder(tape);
        for (int four : five) {
            for (int i = 3; i >= 0; i--) {
                more.append((char) (four >>> 8 * i & 255));
            }
        }
        tape = more.toString();
        return tape.length();
    }

    int back(int n) {
        if (n < 0 || n > tape.length()) {
            return -1;
        }
        tape = tape.substring(0, tape.length() - n);
        return tape.length();
    }

    int read() {
        String bytes = tape;
        tape = "";
        List<Token> tokens = new ArrayList<>();
        Matcher m = TOKEN.matcher(bytes);
        while (m.find()) {
            if (!m.group().matches("[\\t\\n\\r ]")) {
                tokens.add(new Token(m.group(), m.start()));
            }
        }
        tokens.add(new Token("", bytes.length()));
        Told draft = new Told();
        int syntax = tokens.size();
        try {
            new Grammar(tokens, draft).text();
        } catch (Fault f) {
            syntax = f.index;
        }
        int room = firstRoom(tokens, syntax);
        faultPlace = -1;
        if (room < syntax) {
            faultPlace = tokens.get(room).place;
            return 2;
        }
        if (syntax < tokens.size()) {
            faultPlace = tokens.get(syntax).place;
            return 1;
        }
        int later = firstLater(tokens);
        if (later != 0) {
            return later;
        }
        text = draft;
        startAnew();
        return 0;
    }

    private void startAnew() {
        now = fresh();
        past.clear();
        told.clear();
        Arrays.fill(slots, null);
    }

    private State fresh() {
        State s = new State();
        s.thick = new ArrayList<>(text.steps);
        for (int i = 0; i < text.steps.size(); i++) {
            s.borne.add(0);
        }
        s.brine = text.brine;
        return s;
    }

    private static int firstRoom(List<Token> tokens, int syntax) {
        int pilgrims = 0;
        int laws = 0;
        int ifs = 0;
        int depth = 0;
        int ints = 0;
        String tell = "";
        for (int i = 0; i < syntax && i < tokens.size() - 1; i++) {
            Token t = tokens.get(i);
            if (t.is("steps", "rain", "brine", "pilgrim", "law")) {
                tell = t.text;
                ifs = 0;
                ints = 0;
                pilgrims += t.is("pilgrim") ? 1 : 0;
                laws += t.is("law") ? 1 : 0;
            }
            ints += t.isInt() ? 1 : 0;
            ifs += t.is("if") ? 1 : 0;
            depth += t.is("(") ? 1 : t.is(")") ? -1 : 0;
            boolean tooMany = tell.equals("steps") && ints > 24 || tell.equals("rain") && ints > 14;
            if (i >= 400 || pilgrims > 8 || laws > 8 || ifs > 4 || depth > 6 || tooMany) {
                return i;
            }
        }
        return syntax;
    }

    private int firstLater(List<Token> tokens) {
        List<String> names = new ArrayList<>();
        String tell = "";
        int since = 0;
        for (Token t : tokens) {
            since++;
            if (t.is("steps", "rain", "brine", "pilgrim", "law")) {
                tell = t.text;
                since = 0;
            }
            if (tell.equals("pilgrim") && since == 1) {
                if (names.contains(t.text)) {
                    faultPlace = t.place;
                    return 3;
                }
                names.add(t.text);
            }
            if (t.isInt()) {
                int n = t.number();
                boolean wrong = tell.equals("steps") && n > 99 || tell.equals("rain") && n > 9
                        || tell.equals("brine") && n > (since == 1 ? 999 : 99)
                        || tell.equals("pilgrim") && (n < 1 || n > 30);
                if (wrong) {
                    faultPlace = t.place;
                    return 5;
                }
            }
        }
        return 0;
    }

    int place() {
        return faultPlace;
    }

    /** The grammar alone: it throws at the first TOKEN with which no text goes on. */
    static final class Grammar {
        private final List<Token> tokens;
        private final Told told;
        private int i;

        Grammar(List<Token> tokens, Told told) {
            this.tokens = tokens;
            this.told = told;
        }

        private Token peek() {
            return tokens.get(i);
        }

        private Token must(boolean fine) throws Fault {
            if (!fine) {
                throw new Fault(i);
            }
            return tokens.get(i++);
        }

        void text() throws Fault {
            while (i < tokens.size() - 1) {
                Token t = must(peek().is("steps", "rain", "brine", "pilgrim", "law"));
                switch (t.text) {
                    case "steps" -> told.steps = ints();
                    case "rain" -> told.rain = ints();
                    case "brine" -> {
                        told.brine = must(peek().isInt()).number();
                        told.growth = must(peek().isInt()).number();
                    }
                    case "pilgrim" -> {
                        String name = must(peek().isName()).text;
                        int weight = must(peek().isInt()).number();
                        told.pilgrims.add(new Pilgrim(name, weight, vow()));
                    }
                    default -> {
                        String vow = vow();
                        must(peek().is("="));
                        told.laws.put(vow, law());
                    }
                }
                must(peek().is(";"));
            }
        }

        private List<Integer> ints() throws Fault {
            List<Integer> ints = new ArrayList<>();
            while (peek().isInt()) {
                ints.add(must(true).number());
            }
            return ints;
        }

        private String vow() throws Fault {
            return must(VOWS.contains(peek().text)).text;
        }

        private Law law() throws Fault {
            List<Clause> clauses = new ArrayList<>();
            while (peek().is("if")) {
                must(true);
                List<Token> less = e();
                must(peek().is("<"));
                List<Token> than = e();
                must(peek().is("then"));
                List<Token> then = e();
                must(peek().is("else"));
                clauses.add(new Clause(less, than, then));
            }
            return new Law(clauses, e());
        }

        private List<Token> e() throws Fault {
            int from = i;
            unit();
            while (peek().is("+", "-", "*", "/")) {
                must(true);
                unit();
            }
            return tokens.subList(from, i);
        }

        private void unit() throws Fault {
            if (peek().is("(")) {
                must(true);
                e();
                must(peek().is(")"));
            } else {
                must(peek().isInt() || peek().is("weight", "thick", "step", "day", "wet", "up", "gone"));
            }
        }
    }

    // ---- laws

    static int worth(Law law, Map<String, Integer> vars) {
        try {
            for (Clause c : law.clauses) {
                if (value(c.less, vars) < value(c.than, vars)) {
                    return value(c.then, vars);
                }
            }
            return value(law.last, vars);
        } catch (ArithmeticException e) {
            return 0;
        }
    }

    /** Splits at the last sign outside of ( ) that binds least. */
    static int value(List<Token> e, Map<String, Integer> vars) {
        for (String signs : List.of("+-", "*/")) {
            int depth = 0;
            for (int i = e.size() - 1; i >= 0; i--) {
                String t = e.get(i).text;
                depth += t.equals(")") ? 1 : t.equals("(") ? -1 : 0;
                if (depth == 0 && signs.contains(t)) {
                    int a = value(e.subList(0, i), vars);
                    int b = value(e.subList(i + 1, e.size()), vars);
                    return switch (t) {
                        case "+" -> a + b;
                        case "-" -> a - b;
                        case "*" -> a * b;
                        default -> a / b;
                    };
                }
            }
        }
        Token t = e.get(0);
        if (t.is("(")) {
            return value(e.subList(1, e.size() - 1), vars);
        }
        return t.isInt() ? t.number() : vars.get(t.text);
    }

    int wearFor(String vow, int weight, int step, int thick, int gone, int day, boolean up) {
        Law law = text.laws.get(vow);
        if (law == null) {
            return weight;
        }
        int w = worth(law, Map.of("weight", weight, "thick", thick, "step", step, "day", day, "wet", text.rainOf(day),
                "up", up ? 1 : 0, "gone", gone));
        return w < 0 ? 0 : w > 99 ? 99 : w;
    }

    // ---- going

    final class Going {
        final State s;
        final String vow;
        final int weight;
        int at = 0;
        int led = 0;
        int result;
        int firstLost = -1;

        Going(State s, String vow, int weight) {
            this.s = s;
            this.vow = vow;
            this.weight = weight;
        }

        private int top() {
            return s.thick.size() + 1;
        }

        private boolean there(int p) {
            return p <= 0 || p >= top() || s.thick.get(p - 1) >= 1;
        }

        private int target(int sign) {
            if (vow.equals("long") && there(at + 2 * sign)) {
                return Math.max(0, Math.min(top(), at + 2 * sign));
            }
            return at + sign;
        }

        /** Whether he stands on the STEP then. */
        private boolean tread(int step, boolean up) {
            for (int i = 0; i < (vow.equals("knees") ? 2 : 1); i++) {
                int before = s.thick.get(step - 1);
                int w = wearFor(vow, weight, step, before, s.gone(), s.day, up);
                int after = Math.max(0, before - w);
                s.thick.set(step - 1, after);
                led += before - after;
                if (firstLost < 0 && before > 0 && after == 0) {
                    firstLost = step;
                }
                if (before < w) {
                    return false;
                }
                s.borne.set(step - 1, s.borne.get(step - 1) + 1);
            }
            return true;
        }

        /** 'u' all the way, 'n' the next is not there, 'b' one broke. */
        char move(boolean up) {
            while (at != (up ? top() : 0)) {
                int to = target(up ? 1 : -1);
                if (!there(to)) {
                    return 'n';
                }
                if (to > 0 && to < top() && !tread(to, up)) {
                    return 'b';
                }
                at = to;
            }
            return 'u';
        }

        Going go() {
            char way = move(true);
            if (way == 'b') {
                result = at == 0 ? 1 : 2;
            } else if (way == 'u' && vow.equals("stays")) {
                result = 0;
            } else if (move(false) != 'u') {
                result = 2;
            } else {
                result = way == 'u' ? 0 : 1;
            }
            return this;
        }
    }

    Going goOn(State s, int p) {
        Going g = new Going(s, text.pilgrims.get(p).vow, text.pilgrims.get(p).weight).go();
        s.place[p] = g.at;
        s.led[p] += g.led;
        s.came[p] += g.result == 0 ? 1 : 0;
        s.stuck[p] = g.result == 2;
        return g;
    }

    private boolean noSuch(int pilgrim) {
        return pilgrim < 0 || pilgrim >= text.pilgrims.size();
    }

    private boolean noStep(int step) {
        return step < 1 || step > text.steps.size();
    }

    int step(int step, int what) {
        if (noStep(step) || what < 0 || what > 3) {
            return -1;
        }
        int on = 0;
        for (int p = 0; p < text.pilgrims.size(); p++) {
            on += now.place[p] == step ? 1 : 0;
        }
        return new int[] {now.thick.get(step - 1), text.steps.get(step - 1), now.borne.get(step - 1), on}[what];
    }

    int pilgrim(int p, int what) {
        if (noSuch(p) || what < 0 || what > 5) {
            return -1;
        }
        Pilgrim him = text.pilgrims.get(p);
        return new int[] {now.place[p], him.weight, VOWS.indexOf(him.vow), now.led[p], now.came[p],
            now.stuck[p] ? 1 : 0}[what];
    }

    int wear(int p, int step, boolean up) {
        if (noSuch(p) || noStep(step)) {
            return -1;
        }
        Pilgrim him = text.pilgrims.get(p);
        return wearFor(him.vow, him.weight, step, now.thick.get(step - 1), now.gone(), now.day, up);
    }

    private void keep() {
        past.push(now.twin());
        if (past.size() > 40) {
            past.removeLast();
        }
    }

    int go(int p) {
        if (noSuch(p)) {
            return -1;
        }
        if (now.place[p] != 0) {
            return 3;
        }
        keep();
        return goOn(now, p).result;
    }

    int would(int p, int what) {
        if (noSuch(p) || what < 0 || what > 2) {
            return -1;
        }
        if (now.place[p] != 0) {
            return new int[] {3, now.place[p], 0}[what];
        }
        Going g = goOn(now.twin(), p);
        return new int[] {g.result, g.at, g.led}[what];
    }

    void nightOver(State s, int rain) {
        s.thick.replaceAll(t -> Math.max(0, t - rain));
        s.brine = Math.min(9999, s.brine + text.growth);
        s.day++;
    }

    int night(int n) {
        if (n < 0 || n > 100) {
            return -1;
        }
        if (n > 0) {
            keep();
        }
        for (int i = 0; i < n; i++) {
            nightOver(now, text.rainOf(now.day));
        }
        return now.day;
    }

    int mend(int step, int much) {
        if (noStep(step) || much < 1) {
            return -1;
        }
        if (much > now.brine || (long) now.thick.get(step - 1) + much > text.steps.get(step - 1)) {
            return -2;
        }
        keep();
        now.thick.set(step - 1, now.thick.get(step - 1) + much);
        now.brine -= much;
        return now.brine;
    }

    boolean undo() {
        if (past.isEmpty()) {
            return false;
        }
        now = past.pop();
        return true;
    }

    // ---- sets

    private boolean noSet(int set) {
        return members(set) == null;
    }

    private List<Integer> members(int set) {
        List<Integer> all = new ArrayList<>();
        for (int p = 0; p < 32; p++) {
            if ((set >>> p & 1) == 1) {
                if (noSuch(p) || now.place[p] != 0) {
                    return null;
                }
                all.add(p);
            }
        }
        return all;
    }

    private List<Integer> bestOrder;
    private int bestCame;
    private int bestStuck;

    private void seekBest(List<Integer> begun, List<Integer> left) {
        if (left.isEmpty()) {
            State s = now.twin();
            int came = 0;
            int stuck = 0;
            for (int p : begun) {
                int result = goOn(s, p).result;
                came += result == 0 ? 1 : 0;
                stuck += result == 2 ? 1 : 0;
            }
            if (bestOrder == null || came > bestCame || came == bestCame && stuck < bestStuck) {
                bestOrder = begun;
                bestCame = came;
                bestStuck = stuck;
            }
        }
        for (int p : left) {
            List<Integer> more = new ArrayList<>(begun);
            more.add(p);
            List<Integer> less = new ArrayList<>(left);
            less.remove((Integer) p);
            seekBest(more, less);
        }
    }

    int order(int set, int what) {
        if (noSet(set) || what < 0 || what > 1) {
            return -1;
        }
        if (Integer.bitCount(set) > 7) {
            return -2;
        }
        bestOrder = null;
        seekBest(List.of(), members(set));
        return what == 0 ? bestCame : bestStuck;
    }

    int orderAt(int set, int i) {
        if (noSet(set) || i < 0 || i >= Integer.bitCount(set)) {
            return -1;
        }
        if (order(set, 0) == -2) {
            return -2;
        }
        return bestOrder.get(i);
    }

    /** The STEPS of a way if all were there. */
    private List<Integer> treads(String vow, boolean up) {
        int top = text.steps.size() + 1;
        int stride = vow.equals("long") ? 2 : 1;
        List<Integer> way = new ArrayList<>();
        if (up) {
            for (int s = stride; s < top; s += stride) {
                way.add(s);
            }
        } else if (!vow.equals("stays")) {
            for (int s = top - stride; s > 0; s -= stride) {
                way.add(s);
            }
        }
        return way;
    }

    /** The least BRINE for a row of treads {pilgrim, 1 up or 0 down}; -2 if there is none. */
    private int least(int step, List<int[]> treads) {
        int is = now.thick.get(step - 1);
        for (int brine = 0; is + brine <= text.steps.get(step - 1); brine++) {
            int thick = is + brine;
            boolean holds = true;
            for (int[] t : treads) {
                Pilgrim him = text.pilgrims.get(t[0]);
                holds = holds && thick > 0;
                for (int i = 0; i < (him.vow.equals("knees") ? 2 : 1) && holds; i++) {
                    int w = wearFor(him.vow, him.weight, step, thick, now.gone(), now.day, t[1] == 1);
                    holds = thick >= w;
                    thick -= w;
                }
            }
            if (holds) {
                return brine;
            }
        }
        return -2;
    }

    int need(int set, int step) {
        if (noSet(set) || step != -1 && noStep(step)) {
            return -1;
        }
        int sum = 0;
        for (int s = 1; s <= text.steps.size(); s++) {
            if (step == s || step == -1) {
                List<int[]> row = new ArrayList<>();
                for (int p : members(set)) {
                    for (int up = 1; up >= 0; up--) {
                        if (treads(text.pilgrims.get(p).vow, up == 1).contains(s)) {
                            row.add(new int[] {p, up});
                        }
                    }
                }
                int one = least(s, row);
                if (one == -2) {
                    return -2;
                }
                sum += one;
            }
        }
        return sum;
    }

    private boolean allCome(State s, List<Integer> set) {
        for (int p : set) {
            if (goOn(s, p).result != 0) {
                return false;
            }
        }
        return true;
    }

    int bears(int set) {
        return noSet(set) ? -1 : allCome(now.twin(), members(set)) ? 1 : 0;
    }

    long odds(int set, int r, int n, int a, int b) {
        if (noSet(set) || r < 0 || r > 9 || n < 0 || n > 12 || b < 1 || b > 9 || a < 0 || a > b) {
            return -1;
        }
        return ways(now.twin(), members(set), r, n, a, b);
    }

    private long ways(State s, List<Integer> set, int r, int n, long a, long b) {
        if (n == 0) {
            return allCome(s, set) ? 1 : 0;
        }
        State wet = s.twin();
        nightOver(wet, r);
        nightOver(s, 0);
        return (a == 0 ? 0 : a * ways(wet, set, r, n - 1, a, b)) + (a == b ? 0 : (b - a) * ways(s, set, r, n - 1, a, b));
    }

    int season(int n, int what) {
        if (n < 1 || n > 100 || what < 0 || what > 3) {
            return -1;
        }
        State s = now.twin();
        int[] first = {-3, -3, -3};
        for (int d = 0; d < n; d++) {
            for (int p = 0; p < text.pilgrims.size(); p++) {
                int lost = s.place[p] == 0 ? goOn(s, p).firstLost : -1;
                if (lost > 0 && first[0] == -3) {
                    first = new int[] {d, lost, p};
                }
            }
            List<Integer> before = new ArrayList<>(s.thick);
            nightOver(s, text.rainOf(s.day));
            for (int i = 0; i < before.size() && first[0] == -3; i++) {
                if (before.get(i) > 0 && s.thick.get(i) == 0) {
                    first = new int[] {d, i + 1, -2};
                }
            }
        }
        int stuck = 0;
        for (boolean b : s.stuck) {
            stuck += b ? 1 : 0;
        }
        return what == 3 ? stuck : first[what];
    }

    int rescue(int p) {
        if (noSuch(p) || !now.stuck[p]) {
            return -1;
        }
        int cost = downFrom(p, now.place[p]);
        return cost >= 100000 ? -2 : cost;
    }

    private int downFrom(int p, int place) {
        if (place <= 0) {
            return 0;
        }
        if (!text.pilgrims.get(p).vow.equals("long")) {
            return downBy(p, place - 1);
        }
        int far = place - 2;
        if (far <= 0 || now.thick.get(far - 1) > 0) {
            return downBy(p, far);
        }
        return Math.min(downBy(p, far), downBy(p, place - 1));
    }

    private int downBy(int p, int step) {
        if (step <= 0) {
            return 0;
        }
        int cost = least(step, List.of(new int[] {p, 0}));
        return cost == -2 ? 100000 : cost + downFrom(p, step);
    }

    int bell(int weight) {
        if (weight < 1 || weight > 999) {
            return -1;
        }
        List<Integer> ground = new ArrayList<>();
        for (int p = 0; p < text.pilgrims.size(); p++) {
            if (now.place[p] == 0) {
                ground.add(p);
            }
        }
        for (int h = 1; h <= ground.size(); h++) {
            State s = now.twin();
            boolean all = true;
            for (int p : ground.subList(0, h)) {
                int part = (int) Math.ceil(weight / (double) h);
                all = all && new Going(s, "plain", text.pilgrims.get(p).weight + part).move(true) == 'u';
            }
            if (all) {
                return h;
            }
        }
        return -2;
    }

    int fair() {
        int n = text.pilgrims.size();
        if (n == 0) {
            return -2;
        }
        int[] led = Arrays.copyOf(now.led, n);
        Arrays.sort(led);
        return led[n - 1] - led[0];
    }

    // ---- what is told

    int tell(int step, int thick) {
        if (noStep(step) || thick < 0 || thick > 99 || told.size() >= 30) {
            return -1;
        }
        told.add(new int[] {step, thick});
        return told.size() - 1;
    }

    int forget() {
        int n = told.size();
        told.clear();
        return n;
    }

    private List<Integer> fitting(int k) {
        if (k < 0 || k > told.size()) {
            return null;
        }
        List<Integer> sets = new ArrayList<>();
        for (int set = 0; set < 1 << text.pilgrims.size(); set++) {
            State s = fresh();
            for (int p = 0; p < text.pilgrims.size(); p++) {
                if ((set >> p & 1) == 1) {
                    goOn(s, p);
                }
            }
            if (told.subList(0, k).stream().allMatch(t -> s.thick.get(t[0] - 1) == t[1])) {
                sets.add(set);
            }
        }
        return sets;
    }

    int fits(int k) {
        List<Integer> sets = fitting(k);
        return sets == null ? -1 : sets.size();
    }

    int walkers(int k, int i) {
        List<Integer> sets = fitting(k);
        return sets == null || i < 0 || i >= sets.size() ? -1 : sets.get(i);
    }

    int who(int k, boolean surely) {
        List<Integer> sets = fitting(k);
        if (sets == null) {
            return -1;
        }
        BiPredicate<Integer, List<Integer>> is = (p, all) -> surely
                ? !all.isEmpty() && all.stream().allMatch(s -> (s >> p & 1) == 1)
                : all.stream().anyMatch(s -> (s >> p & 1) == 1);
        int bits = 0;
        for (int p = 0; p < 8; p++) {
            bits |= is.test(p, sets) ? 1 << p : 0;
        }
        return bits;
    }

    boolean hold(int slot) {
        if (slot < 0 || slot > 2) {
            return false;
        }
        slots[slot] = now.twin();
        return true;
    }

    boolean restore(int slot) {
        if (slot < 0 || slot > 2 || slots[slot] == null) {
            return false;
        }
        now = slots[slot].twin();
        past.clear();
        return true;
    }

    int count(int what) {
        Map<Integer, Integer> counts = new TreeMap<>();
        int stuck = 0;
        for (boolean b : now.stuck) {
            stuck += b ? 1 : 0;
        }
        int held = (int) Arrays.stream(slots).filter(s -> s != null).count();
        int[] all = {text.steps.size(), text.pilgrims.size(), now.brine, now.day, text.rain.size(), now.gone(), stuck,
            told.size(), tape.length(), past.size(), held, now.thick.stream().mapToInt(t -> t).sum()};
        for (int i = 0; i < all.length; i++) {
            counts.put(i, all[i]);
        }
        return counts.getOrDefault(what, -1);
    }
}
