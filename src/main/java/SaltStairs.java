/** Stairs cut in salt up to a monastery, the pilgrims on them, and what can be asked of both. */
public final class SaltStairs {
    public static final int NONE = -1;

    private static final int CANNOT = -2;
    private static final int UNBROKEN = -3;
    private static final int BY_RAIN = -2;

    private static final int MOST_STEPS = 24;
    private static final int PLACES = MOST_STEPS + 2;
    private static final int MOST_THICK = 99;
    private static final int MOST_RAINS = 14;
    private static final int MOST_RAIN = 9;
    private static final int MOST_PILGRIMS = 8;
    private static final int MOST_ORDERED = 7;
    private static final int MOST_BRINE = 9999;
    private static final int MOST_UNDONE = 40;
    private static final int SLOTS = 3;

    private static final int CAME = 0;
    private static final int TURNED = 1;
    private static final int STUCK = 2;
    private static final int AWAY = 3;

    private static final int PLAIN = 0;
    private static final int KNEES = 1;
    private static final int LONG = 2;
    private static final int STAYS = 3;
    private static final int VOWS = 4;

    private final Tape tape = new Tape();
    private final Text text = new Text();
    private final Parser parser = new Parser(tape);
    private final Walk walk = new Walk(text);
    private final Scene now = new Scene(text);
    private final Scene[] past = new Scene[MOST_UNDONE];
    private final Scene[] slots = new Scene[SLOTS];
    private final boolean[] held = new boolean[SLOTS];
    private final Stairs spare = new Stairs();
    private final Orders orders = new Orders(walk);
    private final Forecast forecast = new Forecast(text, walk);
    private final Mending mending = new Mending(text, walk);
    private final Told told = new Told(text, walk);
    private int pastCount;
    private int pastEnd;
    private int faultPlace = NONE;

    public SaltStairs() {
        for (int i = 0; i < past.length; i++) {
            past[i] = new Scene(text);
        }
        for (int i = 0; i < slots.length; i++) {
            slots[i] = new Scene(text);
        }
    }

    public int feed(int a, int b, int c, int d, int e) {
        return tape.add(a, b, c, d, e);
    }

    public int back(int n) {
        return tape.cut(n);
    }

    public int read() {
        int fault = parser.parse();
        tape.clear();
        faultPlace = fault == 0 ? NONE : parser.faultPlace();
        if (fault == 0) {
            startAnew();
        }
        return fault;
    }

    public int place() {
        return faultPlace;
    }

    public int step(int step, int what) {
        if (!now.stairs.isStep(step)) {
            return NONE;
        }
        switch (what) {
            case 0: return now.stairs.thickAt(step);
            case 1: return at(text.thick, step);
            case 2: return now.stairs.borneAt(step);
            case 3: return now.standingOn(step);
            default: return NONE;
        }
    }

    public int pilgrim(int pilgrim, int what) {
        if (!text.hasPilgrim(pilgrim)) {
            return NONE;
        }
        switch (what) {
            case 0: return at(now.spots, pilgrim);
            case 1: return at(text.weights, pilgrim);
            case 2: return at(text.vows, pilgrim);
            case 3: return at(now.led, pilgrim);
            case 4: return at(now.came, pilgrim);
            case 5: return at(now.stuck, pilgrim);
            default: return NONE;
        }
    }

    public int wear(int pilgrim, int step, boolean up) {
        if (!text.hasPilgrim(pilgrim) || !now.stairs.isStep(step)) {
            return NONE;
        }
        walk.begin(pilgrim, now.day);
        return walk.wearOn(step, now.stairs.thickAt(step), now.stairs.gone, up);
    }

    public int go(int pilgrim) {
        if (!text.hasPilgrim(pilgrim)) {
            return NONE;
        }
        if (!now.isOnGround(pilgrim)) {
            return AWAY;
        }
        keepPast();
        int outcome = walk.through(now.stairs, pilgrim, now.day);
        now.settle(pilgrim, outcome, walk.spot, walk.led);
        dropAnswers();
        return outcome;
    }

    public int would(int pilgrim, int what) {
        if (!text.hasPilgrim(pilgrim) || what < 0 || what > 2) {
            return NONE;
        }
        int outcome = AWAY;
        int spot = at(now.spots, pilgrim);
        int led = 0;
        if (now.isOnGround(pilgrim)) {
            spare.copyFrom(now.stairs);
            outcome = walk.through(spare, pilgrim, now.day);
            spot = walk.spot;
            led = walk.led;
        }
        return what == 0 ? outcome : what == 1 ? spot : led;
    }

    public int night(int n) {
        if (n < 0 || n > 100) {
            return NONE;
        }
        if (n > 0) {
            keepPast();
            for (int i = 0; i < n; i++) {
                now.passNight();
            }
            dropAnswers();
        }
        return now.day;
    }

    public int mend(int step, int much) {
        if (!now.stairs.isStep(step) || much < 1) {
            return NONE;
        }
        int thick = now.stairs.thickAt(step);
        if (much > now.brine || much > at(text.thick, step) - thick) {
            return CANNOT;
        }
        keepPast();
        now.stairs.setThick(step, thick + much);
        now.brine -= much;
        dropAnswers();
        return now.brine;
    }

    public boolean undo() {
        if (pastCount <= 0) {
            return false;
        }
        pastCount--;
        pastEnd = (pastEnd + MOST_UNDONE - 1) % MOST_UNDONE;
        return goOnFrom(past, pastEnd);
    }

    public int order(int set, int what) {
        if (!areOnGround(set) || what < 0 || what > 1) {
            return NONE;
        }
        if (Integer.bitCount(set) > MOST_ORDERED) {
            return CANNOT;
        }
        orders.seek(now, set);
        return what == 0 ? orders.mostCome : orders.fewestStuck;
    }

    public int orderAt(int set, int i) {
        int size = Integer.bitCount(set);
        if (!areOnGround(set) || i < 0 || i >= size) {
            return NONE;
        }
        if (size > MOST_ORDERED) {
            return CANNOT;
        }
        orders.seek(now, set);
        return at(orders.best, i);
    }

    public int need(int set, int step) {
        if (!areOnGround(set)) {
            return NONE;
        }
        if (step == NONE) {
            return mending.allNeed(now, set);
        }
        return now.stairs.isStep(step) ? mending.needOf(now, set, step) : NONE;
    }

    public int bears(int set) {
        if (!areOnGround(set)) {
            return NONE;
        }
        return forecast.allCome(now, set) ? 1 : 0;
    }

    public long odds(int set, int r, int n, int a, int b) {
        boolean rainIsFine = r >= 0 && r <= MOST_RAIN && n >= 0 && n <= 12;
        boolean shareIsFine = b >= 1 && b <= 9 && a >= 0 && a <= b;
        if (!areOnGround(set) || !rainIsFine || !shareIsFine) {
            return NONE;
        }
        return forecast.dryEnoughWays(now, set, r, n, a, b);
    }

    public int season(int n, int what) {
        if (n < 1 || n > 100 || what < 0 || what > 3) {
            return NONE;
        }
        forecast.foresee(now, n);
        switch (what) {
            case 0: return forecast.firstDay;
            case 1: return forecast.firstStep;
            case 2: return forecast.firstBy;
            default: return forecast.stuck;
        }
    }

    public int rescue(int pilgrim) {
        if (!text.hasPilgrim(pilgrim) || at(now.stuck, pilgrim) == 0) {
            return NONE;
        }
        return mending.takenOff(now, pilgrim);
    }

    public int bell(int weight) {
        if (weight < 1 || weight > 999) {
            return NONE;
        }
        return forecast.fewestHands(now, weight);
    }

    public int fair() {
        if (text.pilgrims <= 0) {
            return CANNOT;
        }
        int most = at(now.led, 0);
        int least = most;
        for (int i = 1; i < text.pilgrims; i++) {
            most = Math.max(most, at(now.led, i));
            least = Math.min(least, at(now.led, i));
        }
        return most - least;
    }

    public int tell(int step, int thick) {
        if (!now.stairs.isStep(step) || thick < 0 || thick > MOST_THICK) {
            return NONE;
        }
        return told.add(step, thick);
    }

    public int forget() {
        int many = told.many;
        told.many = 0;
        return many;
    }

    public int fits(int k) {
        return told.knows(k) ? told.fitting(k) : NONE;
    }

    public int walkers(int k, int i) {
        return told.knows(k) ? told.fittingAt(k, i) : NONE;
    }

    public int who(int k, boolean surely) {
        if (!told.knows(k)) {
            return NONE;
        }
        return surely ? told.inAll(k) : told.inSome(k);
    }

    public boolean hold(int slot) {
        if (slot < 0 || slot >= slots.length || slot >= held.length || slots[slot] == null) {
            return false;
        }
        slots[slot].copyFrom(now);
        held[slot] = true;
        return true;
    }

    public boolean restore(int slot) {
        if (slot < 0 || slot >= held.length || !held[slot]) {
            return false;
        }
        pastCount = 0;
        return goOnFrom(slots, slot);
    }

    public int count(int what) {
        switch (what) {
            case 0: return text.steps;
            case 1: return text.pilgrims;
            case 2: return now.brine;
            case 3: return now.day;
            case 4: return text.rains;
            case 5: return now.stairs.gone;
            case 6: return now.stuckOnes();
            case 7: return told.many;
            case 8: return tape.length;
            case 9: return pastCount;
            case 10: return heldSlots();
            case 11: return now.stairs.allThick();
            default: return NONE;
        }
    }

    private void startAnew() {
        text.copyFrom(parser.draft);
        now.start();
        pastCount = 0;
        for (int i = 0; i < held.length; i++) {
            held[i] = false;
        }
        told.startAnew();
        dropAnswers();
    }

    private void keepPast() {
        if (pastEnd >= 0 && pastEnd < past.length && past[pastEnd] != null) {
            past[pastEnd].copyFrom(now);
        }
        pastEnd = (pastEnd + 1) % MOST_UNDONE;
        pastCount = Math.min(MOST_UNDONE, pastCount + 1);
    }

    private boolean goOnFrom(Scene[] scenes, int i) {
        if (i < 0 || i >= scenes.length || scenes[i] == null) {
            return false;
        }
        now.copyFrom(scenes[i]);
        dropAnswers();
        return true;
    }

    // Orders and seasons are dear to find and are asked for piece by piece, so they are kept until something changes.
    private void dropAnswers() {
        orders.drop();
        forecast.drop();
    }

    private boolean areOnGround(int set) {
        return (set & ~now.grounded()) == 0;
    }

    private int heldSlots() {
        int many = 0;
        for (int i = 0; i < held.length; i++) {
            many += held[i] ? 1 : 0;
        }
        return many;
    }

    private static int at(int[] row, int i) {
        return i >= 0 && i < row.length ? row[i] : 0;
    }

    private static void put(int[] row, int i, int value) {
        if (i >= 0 && i < row.length) {
            row[i] = value;
        }
    }

    private static void copy(int[] from, int[] to) {
        System.arraycopy(from, 0, to, 0, Math.min(from.length, to.length));
    }

    private static void wipe(int[] row) {
        for (int i = 0; i < row.length; i++) {
            row[i] = 0;
        }
    }

    private static boolean has(int set, int pilgrim) {
        return (set >> pilgrim & 1) == 1;
    }

    /** The bytes that came, and the TOKENS they are cut into. */
    private static final class Tape {
        private static final int MOST_BYTES = 2000;
        private static final int FED = 20;
        private static final int MOST_TOKENS = 400;
        private static final int MOST_LETTERS = 8;
        private static final int MOST_DIGITS = 4;

        // The kind of a word is its number in WORDS, of a sign its byte: these, from 40 on, meet none of the others.
        private static final int WORD_STEPS = 0;
        private static final int WORD_RAIN = 1;
        private static final int WORD_BRINE = 2;
        private static final int WORD_PILGRIM = 3;
        private static final int WORD_LAW = 4;
        private static final int WORD_IF = 5;
        private static final int WORD_THEN = 6;
        private static final int WORD_ELSE = 7;
        private static final int WORD_PLAIN = 8;
        private static final int WORD_STAYS = 11;
        private static final int WORD_WEIGHT = 12;
        private static final int WORD_GONE = 18;
        private static final int NAME = 19;
        private static final int INT = 20;
        private static final int END = 21;
        private static final int NO_TOKEN = 22;
        private static final String WORDS =
                "steps   rain    brine   pilgrim law     if      then    else    plain   knees   long    stays   weight  thick   step    day     wet     up      gone    ";
        private static final String SIGNS = ";=+-*/<()";

        private final byte[] bytes = new byte[MOST_BYTES];
        private int length;
        // One more than a text may have: at that one, or ahead of it, every text ends or has its FAULT.
        private final int[] kinds = new int[MOST_TOKENS + 1];
        private final long[] values = new long[MOST_TOKENS + 1];
        private final int[] starts = new int[MOST_TOKENS + 1];

        private int add(int a, int b, int c, int d, int e) {
            if (length + FED > MOST_BYTES) {
                return NONE;
            }
            addFour(a);
            addFour(b);
            addFour(c);
            addFour(d);
            addFour(e);
            return length;
        }

        private void addFour(int four) {
            for (int shift = 24; shift >= 0; shift -= 8) {
                if (length >= 0 && length < bytes.length) {
                    bytes[length] = (byte) (four >> shift);
                    length++;
                }
            }
        }

        private int cut(int n) {
            if (n < 0 || n > length) {
                return NONE;
            }
            length -= n;
            return length;
        }

        private void clear() {
            length = 0;
        }

        private int kindAt(int token) {
            return token >= 0 && token < kinds.length ? kinds[token] : NO_TOKEN;
        }

        private long valueAt(int token) {
            return token >= 0 && token < values.length ? values[token] : 0;
        }

        private int startAt(int token) {
            return at(starts, token);
        }

        private void cutIntoTokens() {
            int start = 0;
            boolean more = true;
            for (int token = 0; token < kinds.length && more; token++) {
                start = afterBlanks(start);
                int end = endOf(start);
                int kind = kindOf(start, end);
                kinds[token] = kind;
                put(starts, token, start);
                if (token < values.length) {
                    values[token] = valueOf(start, end);
                }
                more = kind != END && kind != NO_TOKEN;
                start = end;
            }
        }

        private int afterBlanks(int start) {
            int i = start;
            while (i < length && isBlank(byteAt(i))) {
                i++;
            }
            return i;
        }

        private int endOf(int start) {
            int end = start + 1;
            if (isLetter(byteAt(start))) {
                while (end < length && isLetter(byteAt(end))) {
                    end++;
                }
            } else if (isDigit(byteAt(start))) {
                while (end < length && isDigit(byteAt(end))) {
                    end++;
                }
            }
            return end;
        }

        private int kindOf(int start, int end) {
            if (start >= length) {
                return END;
            }
            int first = byteAt(start);
            if (isLetter(first)) {
                return end - start > MOST_LETTERS ? NO_TOKEN : wordOf(start, end);
            }
            if (isDigit(first)) {
                return end - start > MOST_DIGITS ? NO_TOKEN : INT;
            }
            return SIGNS.indexOf((char) first) >= 0 ? first : NO_TOKEN;
        }

        private int wordOf(int start, int end) {
            for (int word = 0; word <= WORD_GONE; word++) {
                if (isWord(word, start, end)) {
                    return word;
                }
            }
            return NAME;
        }

        private boolean isWord(int word, int start, int end) {
            for (int i = 0; i < MOST_LETTERS; i++) {
                int letter = start + i < end ? byteAt(start + i) : ' ';
                int spot = word * MOST_LETTERS + i;
                if (spot < 0 || spot >= WORDS.length() || WORDS.charAt(spot) != letter) {
                    return false;
                }
            }
            return true;
        }

        // In base 27 two NAMES have the same value only if they are the same.
        private long valueOf(int start, int end) {
            long value = 0;
            for (int i = start; i < end; i++) {
                int sign = byteAt(i);
                value = isDigit(sign) ? value * 10 + sign - '0' : value * 27 + sign - 'a' + 1;
            }
            return value;
        }

        private int byteAt(int i) {
            return i >= 0 && i < length && i < bytes.length ? bytes[i] & 255 : 0;
        }

        private static boolean isBlank(int sign) {
            return sign == 9 || sign == 10 || sign == 13 || sign == 32;
        }

        private static boolean isLetter(int sign) {
            return sign >= 'a' && sign <= 'z';
        }

        private static boolean isDigit(int sign) {
            return sign >= '0' && sign <= '9';
        }
    }

    /** Makes a draft of what the tape tells, or finds the FAULT. */
    private static final class Parser {
        private static final int SYNTAX = 1;
        private static final int ROOM = 2;
        private static final int TWICE = 3;
        private static final int WRONG = 5;
        private static final int MOST_LAWS = 8;
        private static final int MOST_IFS = 4;
        private static final int MOST_NESTED = 6;

        private final Tape tape;
        private final Text draft = new Text();
        private final long[] names = new long[MOST_PILGRIMS];
        private int next;
        // Of the next TOKEN; behind a FAULT there is none more, so that all that still reads comes to its end.
        private int kind;
        private int lawsTold;
        private int fault;
        private int faultToken;
        // TWICE and WRONG stand back behind SYNTAX and ROOM, wherever these are.
        private int laterFault;
        private int laterFaultToken;

        private Parser(Tape tape) {
            this.tape = tape;
        }

        private int parse() {
            tape.cutIntoTokens();
            next = 0;
            kind = tape.kindAt(next);
            lawsTold = 0;
            fault = 0;
            laterFault = 0;
            draft.clear();
            for (int i = 0; i <= Tape.MOST_TOKENS && fault == 0 && kind != Tape.END; i++) {
                switch (kind) {
                    case Tape.WORD_STEPS: draft.steps = readRow(draft.thick, 1, MOST_STEPS, MOST_THICK); break;
                    case Tape.WORD_RAIN: draft.rains = readRow(draft.rain, 0, MOST_RAINS, MOST_RAIN); break;
                    case Tape.WORD_BRINE: readBrine(); break;
                    case Tape.WORD_PILGRIM: readPilgrim(); break;
                    case Tape.WORD_LAW: readLaw(); break;
                    default: fail(SYNTAX);
                }
                take(';');
            }
            return fault != 0 ? fault : laterFault;
        }

        private int faultPlace() {
            return tape.startAt(fault != 0 ? faultToken : laterFaultToken);
        }

        private int readRow(int[] row, int first, int room, int most) {
            take(kind);
            int many = 0;
            while (many < room && kind == Tape.INT) {
                put(row, first + many, takeInt(0, most));
                many++;
            }
            if (kind == Tape.INT) {
                fail(ROOM);
            }
            return many;
        }

        private void readBrine() {
            take(Tape.WORD_BRINE);
            draft.brine = takeInt(0, 999);
            draft.growth = takeInt(0, 99);
        }

        private void readPilgrim() {
            int number = draft.pilgrims;
            if (number >= MOST_PILGRIMS) {
                fail(ROOM);
                return;
            }
            take(Tape.WORD_PILGRIM);
            takeName(number);
            put(draft.weights, number, takeInt(1, 30));
            put(draft.vows, number, takeVow());
            draft.pilgrims = number + 1;
        }

        private void takeName(int number) {
            long name = tape.valueAt(next);
            for (int i = 0; i < number && i < names.length; i++) {
                if (kind == Tape.NAME && names[i] == name) {
                    failLater(TWICE);
                }
            }
            if (number >= 0 && number < names.length) {
                names[number] = name;
            }
            take(Tape.NAME);
        }

        private void readLaw() {
            lawsTold++;
            if (lawsTold > MOST_LAWS) {
                fail(ROOM);
                return;
            }
            take(Tape.WORD_LAW);
            int vow = takeVow();
            take('=');
            draft.laws.open(vow);
            for (int n = 0; n < MOST_IFS && kind == Tape.WORD_IF; n++) {
                readIf();
            }
            if (kind == Tape.WORD_IF) {
                fail(ROOM);
            }
            readSum(0);
            draft.laws.emit(Laws.STOP, 0);
        }

        private void readIf() {
            take(Tape.WORD_IF);
            readSum(0);
            take('<');
            readSum(0);
            take(Tape.WORD_THEN);
            int test = draft.laws.length;
            draft.laws.emit(Laws.LESS, 0);
            readSum(0);
            take(Tape.WORD_ELSE);
            draft.laws.emit(Laws.STOP, 0);
            draft.laws.elseHere(test);
        }

        // A + or - waits until its right side, which * and / may still lengthen, is whole.
        private void readSum(int nested) {
            int waiting = NONE;
            readUnit(nested);
            for (int i = 0; i < Tape.MOST_TOKENS && isSign(kind); i++) {
                int sign = kind;
                boolean bindsLess = sign == '+' || sign == '-';
                if (bindsLess && waiting != NONE) {
                    draft.laws.emit(waiting, 0);
                }
                take(sign);
                readUnit(nested);
                if (bindsLess) {
                    waiting = sign == '+' ? Laws.PLUS : Laws.MINUS;
                } else {
                    draft.laws.emit(sign == '*' ? Laws.TIMES : Laws.OVER, 0);
                }
            }
            if (waiting != NONE) {
                draft.laws.emit(waiting, 0);
            }
        }

        private static boolean isSign(int kind) {
            return kind == '+' || kind == '-' || kind == '*' || kind == '/';
        }

        private void readUnit(int nested) {
            int look = kind - Tape.WORD_WEIGHT;
            if (kind == Tape.INT) {
                draft.laws.emit(Laws.NUMBER, (int) tape.valueAt(next));
                take(Tape.INT);
            } else if (kind >= Tape.WORD_WEIGHT && kind <= Tape.WORD_GONE) {
                take(kind);
                draft.laws.emit(Laws.LOOK, look);
            } else if (kind != '(') {
                fail(SYNTAX);
            } else if (nested >= MOST_NESTED) {
                fail(ROOM);
            } else {
                take('(');
                readSum(nested + 1);
                take(')');
            }
        }

        private void take(int wanted) {
            if (kind != wanted) {
                fail(SYNTAX);
            } else if (next >= Tape.MOST_TOKENS) {
                fail(ROOM);
            } else {
                next++;
                kind = tape.kindAt(next);
            }
        }

        private int takeInt(int least, int most) {
            int value = (int) tape.valueAt(next);
            if (kind == Tape.INT && (value < least || value > most)) {
                failLater(WRONG);
            }
            take(Tape.INT);
            return value;
        }

        private int takeVow() {
            int vow = kind - Tape.WORD_PLAIN;
            if (kind < Tape.WORD_PLAIN || kind > Tape.WORD_STAYS) {
                fail(SYNTAX);
                return PLAIN;
            }
            take(kind);
            return vow;
        }

        private void fail(int which) {
            if (fault == 0) {
                fault = which;
                faultToken = next;
                kind = Tape.NO_TOKEN;
            }
        }

        private void failLater(int which) {
            if (laterFault == 0) {
                laterFault = which;
                laterFaultToken = next;
            }
        }
    }

    /** What a text tells. */
    private static final class Text {
        private final int[] thick = new int[PLACES];
        private final int[] rain = new int[MOST_RAINS];
        private final int[] weights = new int[MOST_PILGRIMS];
        private final int[] vows = new int[MOST_PILGRIMS];
        private final Laws laws = new Laws();
        private int steps;
        private int rains;
        private int brine;
        private int growth;
        private int pilgrims;

        private void clear() {
            steps = 0;
            rains = 0;
            brine = 0;
            growth = 0;
            pilgrims = 0;
            laws.clear();
        }

        private void copyFrom(Text other) {
            copy(other.thick, thick);
            copy(other.rain, rain);
            copy(other.weights, weights);
            copy(other.vows, vows);
            laws.copyFrom(other.laws);
            steps = other.steps;
            rains = other.rains;
            brine = other.brine;
            growth = other.growth;
            pilgrims = other.pilgrims;
        }

        private boolean hasPilgrim(int pilgrim) {
            return pilgrim >= 0 && pilgrim < pilgrims;
        }

        private int rainOf(int day) {
            return rains > 0 ? at(rain, day % rains) : 0;
        }
    }

    /** The LAWS as rows of small commands, one row a VOW. */
    private static final class Laws {
        private static final int STOP = 0;
        private static final int NUMBER = 1;
        private static final int LOOK = 2;
        private static final int LESS = 3;
        private static final int PLUS = 4;
        private static final int MINUS = 5;
        private static final int TIMES = 6;
        private static final int OVER = 7;
        private static final int BITS = 3;

        // A TOKEN makes one command at most.
        private final int[] commands = new int[Tape.MOST_TOKENS + 1];
        private int length;
        private final int[] starts = new int[VOWS];
        // Seven levels of ( hold two numbers each, and the left side of < one.
        private final int[] kept = new int[24];

        private Laws() {
            clear();
        }

        private void clear() {
            length = 0;
            for (int i = 0; i < starts.length; i++) {
                starts[i] = NONE;
            }
        }

        private void copyFrom(Laws other) {
            copy(other.commands, commands);
            copy(other.starts, starts);
            length = other.length;
        }

        private void open(int vow) {
            put(starts, vow, length);
        }

        private void emit(int command, int number) {
            if (length < commands.length) {
                put(commands, length, command | number << BITS);
                length++;
            }
        }

        private void elseHere(int test) {
            put(commands, test, LESS | length << BITS);
        }

        private boolean tells(int vow) {
            return vow >= 0 && vow < starts.length && starts[vow] >= 0;
        }

        private int worth(int vow, int[] looks) {
            int last = 0;
            int many = 0;
            int start = vow >= 0 && vow < starts.length ? starts[vow] : NONE;
            for (int i = start; i >= 0 && i < commands.length; i++) {
                int command = commands[i] & (1 << BITS) - 1;
                int number = commands[i] >> BITS;
                if (command == STOP) {
                    return last;
                }
                if (command == NUMBER || command == LOOK) {
                    if (many >= 0 && many < kept.length) {
                        kept[many] = last;
                    }
                    many++;
                    last = command == NUMBER ? number : number >= 0 && number < looks.length ? looks[number] : 0;
                    continue;
                }
                many--;
                int first = many >= 0 && many < kept.length ? kept[many] : 0;
                if (command == LESS) {
                    many = 0;
                    i = first < last || number <= i ? i : number - 1;
                } else if (command == OVER) {
                    if (last == 0) {
                        return 0;
                    }
                    last = first / last;
                } else {
                    last = command == PLUS ? first + last : command == MINUS ? first - last : first * last;
                }
            }
            return last;
        }
    }

    /** How THICK the STEPS are, and what they bore. */
    private static final class Stairs {
        private final int[] thick = new int[PLACES];
        private final int[] borne = new int[PLACES];
        private int steps;
        private int gone;

        private void build(Text text) {
            steps = text.steps;
            copy(text.thick, thick);
            wipe(borne);
            gone = 0;
            for (int step = 1; step <= steps; step++) {
                gone += at(thick, step) > 0 ? 0 : 1;
            }
        }

        private void copyFrom(Stairs other) {
            copy(other.thick, thick);
            copy(other.borne, borne);
            steps = other.steps;
            gone = other.gone;
        }

        private int top() {
            return steps + 1;
        }

        private boolean isStep(int step) {
            return step >= 1 && step <= steps;
        }

        private boolean isThere(int spot) {
            return spot == 0 || spot == steps + 1 || isStep(spot) && thickAt(spot) > 0;
        }

        private int thickAt(int step) {
            return step >= 0 && step < thick.length ? thick[step] : 0;
        }

        private int borneAt(int step) {
            return at(borne, step);
        }

        private void bear(int step) {
            put(borne, step, at(borne, step) + 1);
        }

        private void setThick(int step, int much) {
            gone += (thickAt(step) > 0 ? 1 : 0) - (much > 0 ? 1 : 0);
            put(thick, step, much);
        }

        /** Answers the first STEP that is worn away, or NONE. */
        private int rainOn(int much) {
            int lost = NONE;
            for (int step = 1; step <= steps; step++) {
                int was = thickAt(step);
                setThick(step, Math.max(0, was - much));
                if (lost == NONE && was > 0 && thickAt(step) == 0) {
                    lost = step;
                }
            }
            return lost;
        }

        private int allThick() {
            int sum = 0;
            for (int step = 1; step <= steps; step++) {
                sum += thickAt(step);
            }
            return sum;
        }
    }

    /** All that changes from day to day: what is undone, held and taken up again. */
    private static final class Scene {
        private final Text text;
        private final Stairs stairs = new Stairs();
        private final int[] spots = new int[MOST_PILGRIMS];
        private final int[] led = new int[MOST_PILGRIMS];
        private final int[] came = new int[MOST_PILGRIMS];
        private final int[] stuck = new int[MOST_PILGRIMS];
        private int brine;
        private int day;

        private Scene(Text text) {
            this.text = text;
        }

        private void start() {
            stairs.build(text);
            wipe(spots);
            wipe(led);
            wipe(came);
            wipe(stuck);
            brine = text.brine;
            day = 0;
        }

        private void copyFrom(Scene other) {
            stairs.copyFrom(other.stairs);
            copy(other.spots, spots);
            copy(other.led, led);
            copy(other.came, came);
            copy(other.stuck, stuck);
            brine = other.brine;
            day = other.day;
        }

        private void settle(int pilgrim, int outcome, int spot, int ledNow) {
            put(spots, pilgrim, spot);
            put(led, pilgrim, at(led, pilgrim) + ledNow);
            put(came, pilgrim, at(came, pilgrim) + (outcome == CAME ? 1 : 0));
            put(stuck, pilgrim, outcome == STUCK ? 1 : 0);
        }

        private void passNight() {
            stairs.rainOn(text.rainOf(day));
            brine = Math.min(MOST_BRINE, brine + text.growth);
            day++;
        }

        private boolean isOnGround(int pilgrim) {
            return text.hasPilgrim(pilgrim) && at(spots, pilgrim) == 0;
        }

        private int grounded() {
            int set = 0;
            for (int i = 0; i < MOST_PILGRIMS; i++) {
                set |= isOnGround(i) ? 1 << i : 0;
            }
            return set;
        }

        private int standingOn(int spot) {
            int many = 0;
            for (int i = 0; i < text.pilgrims; i++) {
                many += at(spots, i) == spot ? 1 : 0;
            }
            return many;
        }

        private int stuckOnes() {
            int many = 0;
            for (int i = 0; i < text.pilgrims; i++) {
                many += at(stuck, i);
            }
            return many;
        }
    }

    /** One going over STAIRS, which it wears, and what came of it. */
    private static final class Walk {
        private static final int MOVED = 0;
        private static final int BLOCKED = 1;
        private static final int BROKEN = 2;

        private final Text text;
        // In the order of the VARS in the words of a text.
        private final int[] looks = new int[7];
        private int weight;
        private int vow;
        private int spot;
        private int led;
        private int lost;

        private Walk(Text text) {
            this.text = text;
        }

        private void begin(int pilgrim, int day) {
            beginAs(at(text.weights, pilgrim), at(text.vows, pilgrim), day);
        }

        private void beginAs(int heavy, int bound, int day) {
            weight = heavy;
            vow = bound;
            put(looks, 0, heavy);
            put(looks, 3, day);
            put(looks, 4, text.rainOf(day));
            spot = 0;
            led = 0;
            lost = NONE;
        }

        private int through(Stairs stairs, int pilgrim, int day) {
            begin(pilgrim, day);
            boolean turned = false;
            for (int i = 0; i < PLACES && !turned && spot < stairs.top(); i++) {
                int moved = advance(stairs, true);
                if (moved == BROKEN) {
                    return spot == 0 ? TURNED : STUCK;
                }
                turned = moved == BLOCKED;
            }
            if (vow == STAYS && !turned) {
                return CAME;
            }
            for (int i = 0; i < PLACES && spot > 0; i++) {
                if (advance(stairs, false) != MOVED) {
                    return STUCK;
                }
            }
            return turned ? TURNED : CAME;
        }

        private boolean carriesUp(Stairs stairs, int heavy, int day) {
            beginAs(heavy, PLAIN, day);
            for (int i = 0; i < PLACES && spot < stairs.top(); i++) {
                if (advance(stairs, true) != MOVED) {
                    return false;
                }
            }
            return true;
        }

        private int advance(Stairs stairs, boolean up) {
            int goal = nextSpot(stairs, up);
            if (!stairs.isThere(goal)) {
                return BLOCKED;
            }
            if (stairs.isStep(goal) && !tread(stairs, goal, up)) {
                return BROKEN;
            }
            spot = goal;
            return MOVED;
        }

        private int nextSpot(Stairs stairs, boolean up) {
            int way = up ? 1 : -1;
            if (vow == LONG) {
                int far = Math.max(0, Math.min(stairs.top(), spot + 2 * way));
                if (stairs.isThere(far)) {
                    return far;
                }
            }
            return spot + way;
        }

        private boolean tread(Stairs stairs, int step, boolean up) {
            for (int i = 0; i < wearsATread(); i++) {
                int thick = stairs.thickAt(step);
                int wear = wearOn(step, thick, stairs.gone, up);
                int taken = Math.min(wear, thick);
                stairs.setThick(step, thick - taken);
                led += taken;
                if (lost == NONE && taken > 0 && taken == thick) {
                    lost = step;
                }
                if (wear > thick) {
                    return false;
                }
                stairs.bear(step);
            }
            return true;
        }

        /** How THICK a STEP is behind a tread if only its own thickness changes; NONE if it is not there or breaks. */
        private int leftBehind(int step, int thick, int gone, boolean up) {
            if (thick < 1) {
                return NONE;
            }
            int left = thick;
            for (int i = 0; i < wearsATread() && left >= 0; i++) {
                left -= wearOn(step, left, gone, up);
            }
            return Math.max(NONE, left);
        }

        private int wearsATread() {
            return vow == KNEES ? 2 : 1;
        }

        private int wearOn(int step, int thick, int gone, boolean up) {
            if (!text.laws.tells(vow)) {
                return weight;
            }
            put(looks, 1, thick);
            put(looks, 2, step);
            put(looks, 5, up ? 1 : 0);
            put(looks, 6, gone);
            return Math.max(0, Math.min(MOST_THICK, text.laws.worth(vow, looks)));
        }
    }

    /** The best order of a set, sought through all of them. */
    private static final class Orders {
        private final Walk walk;
        private final Stairs[] stages = new Stairs[MOST_ORDERED + 1];
        private final int[] path = new int[MOST_ORDERED];
        private final int[] best = new int[MOST_ORDERED];
        private int soughtSet = NONE;
        private int size;
        private int day;
        private int mostCome;
        private int fewestStuck;

        private Orders(Walk walk) {
            this.walk = walk;
            for (int i = 0; i < stages.length; i++) {
                stages[i] = new Stairs();
            }
        }

        private void drop() {
            soughtSet = NONE;
        }

        private void seek(Scene now, int set) {
            if (set == soughtSet || stages.length < 1 || stages[0] == null) {
                return;
            }
            soughtSet = set;
            size = Integer.bitCount(set);
            day = now.day;
            mostCome = NONE;
            fewestStuck = 0;
            stages[0].copyFrom(now.stairs);
            search(0, set, 0, 0);
        }

        // Orders come up with the first by numbers first, so a later one must be better to be taken.
        private void search(int depth, int left, int come, int stuck) {
            int atMost = come + size - depth;
            if (atMost < mostCome || atMost == mostCome && stuck >= fewestStuck) {
                return;
            }
            if (depth >= size) {
                mostCome = come;
                fewestStuck = stuck;
                copy(path, best);
                return;
            }
            if (depth < 0 || depth >= path.length || depth + 1 >= stages.length
                    || stages[depth] == null || stages[depth + 1] == null) {
                return;
            }
            for (int i = 0; i < MOST_PILGRIMS; i++) {
                if (has(left, i)) {
                    stages[depth + 1].copyFrom(stages[depth]);
                    int outcome = walk.through(stages[depth + 1], i, day);
                    path[depth] = i;
                    search(depth + 1, left & ~(1 << i),
                            come + (outcome == CAME ? 1 : 0), stuck + (outcome == STUCK ? 1 : 0));
                }
            }
        }
    }

    /** What would come of sets, of rain, of seasons and of a bell, tried on STAIRS of its own. */
    private static final class Forecast {
        private final Text text;
        private final Walk walk;
        private final Stairs stairs = new Stairs();
        private int foreseenDays = NONE;
        private int firstDay;
        private int firstStep;
        private int firstBy;
        private int stuck;

        private Forecast(Text text, Walk walk) {
            this.text = text;
            this.walk = walk;
        }

        private void drop() {
            foreseenDays = NONE;
        }

        private boolean allCome(Scene now, int set) {
            stairs.copyFrom(now.stairs);
            return allComeOver(set, now.day);
        }

        private boolean allComeOver(int set, int day) {
            for (int i = 0; i < MOST_PILGRIMS; i++) {
                if (has(set, i) && walk.through(stairs, i, day) != CAME) {
                    return false;
                }
            }
            return true;
        }

        // It matters only how many of the nights are wet, not which.
        private long dryEnoughWays(Scene now, int set, int r, int n, int a, int b) {
            long found = 0;
            for (int wet = 0; wet <= n; wet++) {
                long ways = choices(n, wet) * power(a, wet) * power(b - a, n - wet);
                if (ways > 0) {
                    stairs.copyFrom(now.stairs);
                    stairs.rainOn(wet * r);
                    found += allComeOver(set, now.day + n) ? ways : 0;
                }
            }
            return found;
        }

        private static long choices(int n, int chosen) {
            long ways = 1;
            for (int i = 1; i <= chosen; i++) {
                ways = ways * (n - i + 1) / i;
            }
            return ways;
        }

        private static long power(int base, int times) {
            long product = 1;
            for (int i = 0; i < times; i++) {
                product *= base;
            }
            return product;
        }

        private void foresee(Scene now, int n) {
            if (n == foreseenDays) {
                return;
            }
            foreseenDays = n;
            firstDay = UNBROKEN;
            firstStep = UNBROKEN;
            firstBy = UNBROKEN;
            stuck = now.stuckOnes();
            stairs.copyFrom(now.stairs);
            int ground = now.grounded();
            for (int i = 0; i < n; i++) {
                ground = groundBehindDay(ground, i, now.day + i);
                noteLost(i, stairs.rainOn(text.rainOf(now.day + i)), BY_RAIN);
            }
        }

        private int groundBehindDay(int ground, int i, int day) {
            int left = ground;
            for (int pilgrim = 0; pilgrim < MOST_PILGRIMS; pilgrim++) {
                if (has(ground, pilgrim)) {
                    int outcome = walk.through(stairs, pilgrim, day);
                    noteLost(i, walk.lost, pilgrim);
                    stuck += outcome == STUCK ? 1 : 0;
                    left &= walk.spot == 0 ? left : ~(1 << pilgrim);
                }
            }
            return left;
        }

        private void noteLost(int i, int step, int by) {
            if (firstDay == UNBROKEN && step != NONE) {
                firstDay = i;
                firstStep = step;
                firstBy = by;
            }
        }

        private int fewestHands(Scene now, int weight) {
            int ground = now.grounded();
            for (int hands = 1; hands <= Integer.bitCount(ground); hands++) {
                if (isCarried(now, ground, hands, (weight + hands - 1) / hands)) {
                    return hands;
                }
            }
            return CANNOT;
        }

        private boolean isCarried(Scene now, int ground, int hands, int share) {
            stairs.copyFrom(now.stairs);
            int carrying = 0;
            for (int i = 0; i < MOST_PILGRIMS && carrying < hands; i++) {
                if (has(ground, i)) {
                    carrying++;
                    if (!walk.carriesUp(stairs, at(text.weights, i) + share, now.day)) {
                        return false;
                    }
                }
            }
            return true;
        }
    }

    /** How much BRINE it takes: of all that a set needs, and to take one off. */
    private static final class Mending {
        // Far above all BRINE that the STEPS of a text can take.
        private static final int TOO_DEAR = 1000000;

        private final Text text;
        private final Walk walk;
        private final int[] dear = new int[PLACES];

        private Mending(Text text, Walk walk) {
            this.text = text;
            this.walk = walk;
        }

        private int allNeed(Scene now, int set) {
            int sum = 0;
            for (int step = 1; step <= text.steps; step++) {
                int need = needOf(now, set, step);
                if (need == CANNOT) {
                    return CANNOT;
                }
                sum += need;
            }
            return sum;
        }

        private int needOf(Scene now, int set, int step) {
            int thick = now.stairs.thickAt(step);
            for (int brine = 0; brine <= at(text.thick, step) - thick; brine++) {
                if (bearsSet(now, set, step, thick + brine)) {
                    return brine;
                }
            }
            return CANNOT;
        }

        // LAWS may ask how THICK a STEP is, so a thicker one need not bear more: each thickness is tried by itself.
        private boolean bearsSet(Scene now, int set, int step, int thick) {
            int left = thick;
            for (int i = 0; i < text.pilgrims && left >= 0; i++) {
                if (has(set, i)) {
                    walk.begin(i, now.day);
                    if (treads(step, true)) {
                        left = walk.leftBehind(step, left, now.stairs.gone, true);
                    }
                    if (left >= 0 && treads(step, false)) {
                        left = walk.leftBehind(step, left, now.stairs.gone, false);
                    }
                }
            }
            return left >= 0;
        }

        private boolean treads(int step, boolean up) {
            if (!up && walk.vow == STAYS) {
                return false;
            }
            int ahead = up ? step : text.steps + 1 - step;
            return walk.vow != LONG || ahead % 2 == 0;
        }

        private int takenOff(Scene now, int pilgrim) {
            walk.begin(pilgrim, now.day);
            int from = at(now.spots, pilgrim);
            put(dear, 0, 0);
            for (int spot = 1; spot <= from; spot++) {
                put(dear, spot, dearFrom(now.stairs, spot));
            }
            int sum = at(dear, from);
            return sum < TOO_DEAR ? sum : CANNOT;
        }

        private int dearFrom(Stairs stairs, int spot) {
            if (walk.vow != LONG) {
                return dearOver(stairs, spot - 1);
            }
            int far = Math.max(0, spot - 2);
            int overFar = dearOver(stairs, far);
            if (stairs.isThere(far)) {
                return overFar;
            }
            return Math.min(overFar, dearOver(stairs, spot - 1));
        }

        private int dearOver(Stairs stairs, int spot) {
            if (spot <= 0) {
                return 0;
            }
            int thick = stairs.thickAt(spot);
            for (int brine = 0; brine <= at(text.thick, spot) - thick; brine++) {
                if (walk.leftBehind(spot, thick + brine, stairs.gone, false) >= 0) {
                    return Math.min(TOO_DEAR, brine + at(dear, spot));
                }
            }
            return TOO_DEAR;
        }
    }

    /** What was TOLD, and which sets of WALKERS could have left it so. */
    private static final class Told {
        private static final int MOST_TOLD = 30;
        private static final int MOST_SETS = 1 << MOST_PILGRIMS;

        private final Text text;
        private final Walk walk;
        private final Stairs stairs = new Stairs();
        private final int[] steps = new int[MOST_TOLD];
        private final int[] thicks = new int[MOST_TOLD];
        private int many;
        // A row a set: how THICK each STEP is behind these WALKERS.
        private final int[] behind = new int[MOST_SETS * PLACES];
        private boolean isWalked;

        private Told(Text text, Walk walk) {
            this.text = text;
            this.walk = walk;
        }

        private void startAnew() {
            many = 0;
            isWalked = false;
        }

        private int add(int step, int thick) {
            if (many >= MOST_TOLD) {
                return NONE;
            }
            put(steps, many, step);
            put(thicks, many, thick);
            many++;
            return many - 1;
        }

        // Only the first who asks has the sets walked: many texts are never asked.
        private boolean knows(int k) {
            if (k < 0 || k > many) {
                return false;
            }
            if (!isWalked) {
                walkAllSets();
            }
            return true;
        }

        private int fitting(int k) {
            int found = 0;
            for (int set = 0; set < sets(); set++) {
                found += isFitting(set, k) ? 1 : 0;
            }
            return found;
        }

        private int fittingAt(int k, int i) {
            int found = 0;
            for (int set = 0; set < sets(); set++) {
                if (isFitting(set, k)) {
                    if (found == i) {
                        return set;
                    }
                    found++;
                }
            }
            return NONE;
        }

        private int inSome(int k) {
            int some = 0;
            for (int set = 0; set < sets(); set++) {
                some |= isFitting(set, k) ? set : 0;
            }
            return some;
        }

        // Whoever is in all sets is in some: if none fits, that leaves nobody.
        private int inAll(int k) {
            int all = inSome(k);
            for (int set = 0; set < sets(); set++) {
                all &= isFitting(set, k) ? set : all;
            }
            return all;
        }

        private int sets() {
            return 1 << text.pilgrims;
        }

        private boolean isFitting(int set, int k) {
            for (int i = 0; i < k; i++) {
                if (at(behind, set * PLACES + at(steps, i)) != at(thicks, i)) {
                    return false;
                }
            }
            return true;
        }

        // The last of a set walks over what the others of it, an earlier set, have left.
        private void walkAllSets() {
            isWalked = true;
            stairs.build(text);
            writeRow(0);
            for (int set = 1; set < sets(); set++) {
                int last = 31 - Integer.numberOfLeadingZeros(set);
                readRow(set & ~(1 << last));
                walk.through(stairs, last, 0);
                writeRow(set);
            }
        }

        private void writeRow(int set) {
            for (int step = 1; step <= text.steps; step++) {
                put(behind, set * PLACES + step, stairs.thickAt(step));
            }
        }

        private void readRow(int set) {
            for (int step = 1; step <= text.steps; step++) {
                stairs.setThick(step, at(behind, set * PLACES + step));
            }
        }
    }
}
