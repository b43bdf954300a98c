import java.util.Set;

/** The edges of part I of the terms and of promises 1 to 5: what a text is, and its FAULTS. */
final class TextEdges {
    private static final int SYNTAX = 1;
    private static final int ROOM = 2;
    private static final int TWICE = 3;
    private static final int WRONG = 5;
    private static final String[] WORDS = {"steps", "rain", "brine", "pilgrim", "law", "if", "then", "else", "plain",
        "knees", "long", "stays", "weight", "thick", "step", "day", "wet", "up", "gone"};
    private static final String NAME = "abc";
    private static final String INT = "7";
    private static final String SIGNS = ";=+-*/<()";
    private static final String VOWS = "plain knees long stays";
    private static final String VARS = "weight thick step day wet up gone";

    private TextEdges() {
    }

    static void all() {
        bytes();
        longestTokens();
        blanks();
        names();
        ints();
        signs();
        longerOnes();
        tells();
        sums();
        steps();
        rain();
        brine();
        pilgrims();
        laws();
        firstFault();
        syntax();
        room();
        roomOfTokens();
        twice();
        wrong();
        faultChangesNothing();
        inPlaceOfTheOneAhead();
        newObject();
        feed();
        back();
        read();
        place();
    }

    private static void faulty(String text, int fault, int place) {
        SaltStairs x = new SaltStairs();
        Due.due("read of " + text, Due.read(x, text), fault);
        Due.due("place in " + text, x.place(), place);
    }

    private static void fine(String text) {
        faulty(text, 0, SaltStairs.NONE);
    }

    private static String blanks(int many) {
        return " ".repeat(many);
    }

    private static void bytes() {
        Doc.term("I", "A TEXT has 2,000 bytes at most.");
        String text = "steps 7;" + blanks(1992);
        SaltStairs x = new SaltStairs();
        Due.due("all 2,000 are read", Due.read(x, text), 0);
        Due.due("told ahead of many blanks", x.step(1, 0), 7);
        Due.due("told behind many blanks", Due.read(x, blanks(1992) + "steps 8;"), 0);
        Due.due("told behind many blanks", x.step(1, 0), 8);
        faulty("steps 7;" + blanks(1991) + "+", SYNTAX, 1999);
        faulty("steps 7" + blanks(1993), SYNTAX, 2000);
        faulty("a".repeat(2000), SYNTAX, 0);
        faulty("1".repeat(2000), SYNTAX, 0);
        faulty("steps " + "1".repeat(1994), SYNTAX, 6);
    }

    private static void longestTokens() {
        Doc.term("I", "TOKENS, the longest that can be,");
        SaltStairs x = Due.of("steps12;");
        Due.due("one number", x.count(0), 1);
        Due.due("12", x.step(1, 0), 12);
        faulty("stepsrain;", SYNTAX, 0);
        faulty("stepss 1;", SYNTAX, 0);
        faulty("rain 1;stepsx 1;", SYNTAX, 7);
        faulty("pilgrim ab c 1 plain;", SYNTAX, 11);
        faulty("pilgrim a 1 plainx;", SYNTAX, 12);
        faulty("law plain=weightx;", SYNTAX, 10);
        faulty("law plain=1 2;", SYNTAX, 12);
        fine("law plain=12;");
    }

    private static void blanks() {
        Doc.term("I", "with blanks (9, 10, 13, 32) between or not:");
        fine("pilgrim a1plain;steps1;law knees=if1<2then3else4;");
        fine("\t\n\r \tsteps\t1\n2\r3 4\t\n\r ;\t\n\r ");
        for (int sign = 0; sign < 256; sign++) {
            aByte((char) sign);
        }
    }

    private static void aByte(char sign) {
        String text = "steps 1" + sign + "2;";
        if (sign == 9 || sign == 10 || sign == 13 || sign == 32) {
            fine(text);
            Due.due("two numbers by the blank " + (int) sign, Due.of(text).count(0), 2);
        } else if (sign >= '0' && sign <= '9') {
            faulty(text, WRONG, 6);
        } else if (sign == ';') {
            faulty(text, SYNTAX, 8);
        } else {
            faulty(text, SYNTAX, 7);
        }
    }

    private static void names() {
        Doc.term("I", "NAMES (letters a .. z, 8 at most, none of the words in quotes),");
        for (String name : new String[] {"a", "z", "abcdefgh", "zzzzzzzz", "byte", "pil", "pilgrims", "laws", "fi"}) {
            fine("pilgrim " + name + " 1 plain;");
        }
        faulty("pilgrim abcdefghi 1 plain;", SYNTAX, 8);
        faulty("pilgrim A 1 plain;", SYNTAX, 8);
        faulty("pilgrim Z 1 plain;", SYNTAX, 8);
        faulty("pilgrim ` 1 plain;", SYNTAX, 8);
        faulty("pilgrim { 1 plain;", SYNTAX, 8);
        faulty("pilgrim aB 1 plain;", SYNTAX, 9);
        faulty("pilgrim 1 1 plain;", SYNTAX, 8);
        Set<String> words = Set.of(WORDS);
        for (String word : WORDS) {
            faulty("pilgrim " + word + " 1 plain;", SYNTAX, 8);
            fine("pilgrim " + word + "x 1 plain;");
            fine("pilgrim x" + word.substring(1) + " 1 plain;");
            String less = word.substring(0, word.length() - 1);
            if (!words.contains(less)) {
                fine("pilgrim " + less + " 1 plain;");
            }
        }
    }

    private static void ints() {
        Doc.term("I", "INTS (1 to 4 digits),");
        for (String number : new String[] {"5", "05", "005", "0005"}) {
            Due.due("5 told as " + number, Due.of("steps " + number + ";").step(1, 0), 5);
        }
        faulty("steps 00005;", SYNTAX, 6);
        faulty("steps -5;", SYNTAX, 6);
        fine("law plain=9999;");
        faulty("law plain=10000;", SYNTAX, 10);
        faulty("steps /;", SYNTAX, 6);
        faulty("steps :;", SYNTAX, 6);
    }

    private static void signs() {
        Doc.term("I", "SIGNS ; = + - * / < ( ) .");
        fine("law plain=if(1+2)<3*4 then 5-6 else 7/8;");
        for (char none : ",.:>!?[]{}\"'%&|^~_#$@\\`".toCharArray()) {
            faulty("steps 1;" + none, SYNTAX, 8);
            faulty("law plain=1" + none + "2;", SYNTAX, 11);
        }
        faulty("law plain=1<=2;", SYNTAX, 11);
        faulty("law plain=if 1<=2 then 3 else 4;", SYNTAX, 15);
        fine("law plain=((1));");
        faulty("law plain=1--2;", SYNTAX, 12);
    }

    private static void longerOnes() {
        Doc.term("I", "A longer one, all else, is no TOKEN.");
        faulty("pilgrim abcdefghijklmnop 1 plain;", SYNTAX, 8);
        faulty("pilgrims steps 1;", SYNTAX, 0);
        faulty("pilgrim pilgrimpilgrim 1 plain;", SYNTAX, 8);
        faulty("law plain=12345678;", SYNTAX, 10);
        faulty("steps 1 99999;", SYNTAX, 8);
        faulty("steps 1;\u00ff", SYNTAX, 8);
        faulty("\u0000", SYNTAX, 0);
        faulty(" #", SYNTAX, 1);
    }

    /** Behind what is told so far, just these TOKENS go on; behind the last of a TELL the text may end. */
    private static void goesOn(String sofar, String... tokens) {
        Set<String> all = Set.of(String.join(" ", tokens).split(" "));
        for (String word : WORDS) {
            next(sofar, word, all.contains(word));
        }
        next(sofar, NAME, all.contains("NAME"));
        next(sofar, INT, all.contains("INT"));
        for (int i = 0; i < SIGNS.length(); i++) {
            next(sofar, SIGNS.substring(i, i + 1), all.contains(SIGNS.substring(i, i + 1)));
        }
        next(sofar, "#", false);
        if (!sofar.isEmpty() && !sofar.endsWith(";")) {
            faulty(sofar, SYNTAX, sofar.length());
        }
    }

    private static void next(String sofar, String token, boolean goesOn) {
        String text = sofar + " " + token;
        if (!goesOn) {
            faulty(text, SYNTAX, sofar.length() + 1);
        } else if (token.equals(";")) {
            fine(text);
        } else {
            faulty(text, SYNTAX, text.length());
        }
    }

    private static void tells() {
        Doc.term("I", "text: {TELL}.");
        fine("");
        goesOn("", "steps rain brine pilgrim law");
        goesOn("steps 1;", "steps rain brine pilgrim law");
        Doc.term("I", "TELL: 'steps' {INT} ';' | 'rain' {INT} ';' | 'brine' INT INT ';' | 'pilgrim' NAME INT VOW ';'");
        goesOn("steps", "INT ;");
        goesOn("steps 1", "INT ;");
        goesOn("rain", "INT ;");
        goesOn("rain 1", "INT ;");
        goesOn("brine", "INT");
        goesOn("brine 1", "INT");
        goesOn("brine 1 1", ";");
        goesOn("pilgrim", "NAME");
        goesOn("pilgrim a", "INT");
        goesOn("pilgrim a 1", VOWS);
        goesOn("pilgrim a 1 long", ";");
        Doc.term("I", "| 'law' VOW '=' {'if' E '<' E 'then' E 'else'} E ';'.");
        goesOn("law", VOWS);
        goesOn("law stays", "=");
        goesOn("law stays =", "if INT (", VARS);
        goesOn("law stays = if", "INT (", VARS);
        goesOn("law stays = if 1", "< + - * /");
        goesOn("law stays = if 1 <", "INT (", VARS);
        goesOn("law stays = if 1 < 2", "then + - * /");
        goesOn("law stays = if 1 < 2 then", "INT (", VARS);
        goesOn("law stays = if 1 < 2 then 3", "else + - * /");
        goesOn("law stays = if 1 < 2 then 3 else", "if INT (", VARS);
        Doc.term("I", "VOW: 'plain' | 'knees' | 'long' | 'stays'.");
        SaltStairs x = Due.of("pilgrim a 1 plain;pilgrim b 1 knees;pilgrim c 1 long;pilgrim d 1 stays;");
        for (int vow = 0; vow < 4; vow++) {
            Due.due("vow", x.pilgrim(vow, 2), vow);
        }
    }

    private static void sums() {
        Doc.term("I", "E: PART {('+' | '-') PART}. PART: UNIT {('*' | '/') UNIT}.");
        goesOn("law long = 1", "+ - * / ;");
        goesOn("law long = 1 +", "INT (", VARS);
        goesOn("law long = 1 *", "INT (", VARS);
        goesOn("law long = 1 - up / 3", "+ - * / ;");
        wearIs("20 - 5 - 3", 12);
        wearIs("20 - 5 + 3", 18);
        wearIs("48 / 6 / 4", 2);
        wearIs("48 / 6 * 4", 32);
        wearIs("7 / 2 * 2", 6);
        wearIs("2 * 7 / 2", 7);
        wearIs("30 - 2 * 3 * 4 - 1", 5);
        wearIs("1 + 2 * 3 + 4 * 5", 27);
        Doc.term("I", "UNIT: INT | VAR | '(' E ')'. VAR: 'weight' | 'thick' | 'step' | 'day' | 'wet' | 'up' | 'gone'.");
        goesOn("law long = (", "INT (", VARS);
        goesOn("law long = ( gone", "+ - * / )");
        goesOn("law long = ( gone )", "+ - * / ;");
        wearIs("20 - (5 - 3)", 18);
        wearIs("48 / (6 * 4)", 2);
        wearIs("2 * (3 + 4) * (5 - (1 + 1))", 42);
    }

    private static void wearIs(String law, int wear) {
        Due.due(law, Due.of("steps 9; pilgrim a 1 plain; law plain = " + law + ";").wear(0, 1, true), wear);
    }

    private static void steps() {
        Doc.term("I", "STEPS (numbered from 1 on; 24 at most; how THICK each is, 0 .. 99; of several the last row told; none if not told),");
        SaltStairs x = Due.of("steps 0 99 1 98;");
        Due.due("no step 0", x.step(0, 0), -1);
        int[] thick = {0, 99, 1, 98};
        for (int i = 0; i < 4; i++) {
            Due.due("thick", x.step(i + 1, 0), thick[i]);
        }
        Due.due("no step 5", x.step(5, 0), -1);
        faulty("steps 99 100;", WRONG, 9);
        Due.due("the last row", Due.read(x, "steps 1 2 3;steps 4 5;"), 0);
        Due.due("of two", x.count(0), 2);
        Due.due("4", x.step(1, 0), 4);
        Due.due("not of the row ahead", x.step(3, 0), -1);
        Due.due("an empty last row", Due.read(x, "steps 1 2 3;steps;"), 0);
        Due.due("of none", x.count(0), 0);
        String row = "steps" + " 3".repeat(23);
        Due.due("24", Due.read(x, row + " 5;"), 0);
        Due.due("24", x.count(0), 24);
        Due.due("the 24th", x.step(24, 0), 5);
        Due.due("no 25th", x.step(25, 0), -1);
        Due.due("24 and 24", Due.read(x, row + " 5;" + row + " 6;"), 0);
        Due.due("the 24th of the last row", x.step(24, 1), 6);
        Due.due("all", x.count(11), 75);
        Due.due("none told", Due.read(x, "rain 1;"), 0);
        Due.due("none", x.count(0), 0);
        Due.due("nor thick", x.count(11), 0);
        Due.due("no step 1", x.step(1, 0), -1);
    }

    private static void rain() {
        Doc.term("I", "RAIN (a row of 14 numbers 0 .. 9 at most, day by day, again and again; of several the last one; none: 0),");
        String row = "rain 1 0 9 0 0 0 0 0 0 0 0 0 0 2;";
        SaltStairs x = Due.of("steps 99; rain 9 9 9 9 9 9 9 9 9 9 9 9 9 9;" + row);
        Due.due("14 numbers", x.count(4), 14);
        int[] days = {1, 2, 3, 13, 14, 15, 16, 17, 28};
        int[] thick = {98, 98, 89, 89, 87, 86, 86, 77, 75};
        for (int i = 0; i < days.length; i++) {
            Due.due("night", x.night(days[i] - x.count(3)), days[i]);
            Due.due("thick on day " + days[i], x.step(1, 0), thick[i]);
        }
        faulty("rain 9 10;", WRONG, 7);
        faulty("rain 1 1 1 1 1 1 1 1 1 1 1 1 1 1 1;", ROOM, 33);
        Due.due("an empty last row", Due.read(x, "steps 9; rain 1 2;rain;"), 0);
        Due.due("no numbers", x.count(4), 0);
        x.night(100);
        Due.due("no rain", x.step(1, 0), 9);
        Due.due("some", Due.read(x, row), 0);
        Due.due("not told", Due.read(x, "steps 9; pilgrim a 1 plain; law plain = wet + 1;"), 0);
        Due.due("no numbers", x.count(4), 0);
        Due.due("dry", x.wear(0, 1, true), 1);
        x.night(3);
        Due.due("no rain", x.step(1, 0), 9);
    }

    private static void brine() {
        Doc.term("I", "BRINE (how much there is, 0 .. 999, how much more each night, 0 .. 99; the last one; 0 and 0),");
        SaltStairs x = Due.of("brine 5 6; brine 999 99;");
        Due.due("999", x.count(2), 999);
        x.night(1);
        Due.due("99 more", x.count(2), 1098);
        faulty("brine 1000 0;", WRONG, 6);
        faulty("brine 999 100;", WRONG, 10);
        faulty("brine 100 1000;", WRONG, 10);
        Due.due("not told", Due.read(x, "steps 9;"), 0);
        Due.due("0", x.count(2), 0);
        x.night(100);
        Due.due("and 0", x.count(2), 0);
        Due.due("0 and 1", Due.read(x, "brine 9 9; brine 0 1;"), 0);
        Due.due("0", x.count(2), 0);
        x.night(1);
        Due.due("1 more", x.count(2), 1);
        Due.due("7 and 0", Due.read(x, "brine 7 0;"), 0);
        x.night(1);
        Due.due("none more", x.count(2), 7);
    }

    private static String eight() {
        StringBuilder text = new StringBuilder();
        for (int i = 0; i < 8; i++) {
            text.append("pilgrim p").append((char) ('a' + i)).append(" ").append(i + 1).append(" plain;");
        }
        return text.toString();
    }

    private static void pilgrims() {
        Doc.term("I", "PILGRIMS, 8 at most (a NAME, WEIGHT 1 .. 30, a VOW; numbered from 0 on),");
        SaltStairs x = Due.of(eight());
        Due.due("8", x.count(1), 8);
        for (int i = 0; i < 8; i++) {
            Due.due("weight", x.pilgrim(i, 1), i + 1);
        }
        Due.due("no ninth", x.pilgrim(8, 1), -1);
        faulty(eight() + "pilgrim z 1 plain;", ROOM, eight().length());
        x = Due.of("pilgrim a 1 plain;pilgrim b 30 plain;");
        Due.due("the least", x.pilgrim(0, 1), 1);
        Due.due("the most", x.pilgrim(1, 1), 30);
        faulty("pilgrim a 0 plain;", WRONG, 10);
        faulty("pilgrim a 31 plain;", WRONG, 10);
        Due.due("none", Due.read(x, "steps 1;"), 0);
        Due.due("none", x.count(1), 0);
        Due.due("no first one", x.pilgrim(0, 1), -1);
    }

    private static void laws() {
        Doc.term("I", "LAWS of WEAR, one for each VOW (the last one told; none: WEAR is the weight, not held).");
        String four = "steps 9;pilgrim a 4 plain;pilgrim b 5 knees;pilgrim c 6 long;pilgrim d 30 stays;";
        SaltStairs x = Due.of(four + "law knees=9;law stays=3;law plain=1;law knees=2;");
        int[] wear = {1, 2, 6, 3};
        for (int i = 0; i < 4; i++) {
            Due.due("wear by law", x.wear(i, 1, true), wear[i]);
        }
        Due.due("no laws more", Due.read(x, four), 0);
        int[] weight = {4, 5, 6, 30};
        for (int i = 0; i < 4; i++) {
            Due.due("wear by weight", x.wear(i, 1, false), weight[i]);
        }
        for (int i = 1; i <= 5; i++) {
            String eight = "law plain = 9;".repeat(7) + "law plain = " + i + "+0".repeat(100) + ";";
            Due.due("eight laws a text", Due.read(x, "steps 9;pilgrim a 1 plain;" + eight), 0);
            Due.due("the last one", x.wear(0, 1, true), i);
        }
        Due.due("a bell that makes the wear 99", Due.of("steps 99;pilgrim a 9 plain;").bell(90), 1);
        Due.due("a bell that makes the wear 100", Due.of("steps 99;pilgrim a 9 plain;").bell(91), -2);
        Due.due("a law on it is held", Due.of("steps 99;pilgrim a 9 plain;law plain=weight;").bell(91), 1);
    }

    private static void firstFault() {
        Doc.term("I", "FAULTS of a text, the first by its place (a byte; the text's end: its length), of one place the least:");
        faulty("steps 1;+;steps +;", SYNTAX, 8);
        faulty("law plain=(((((((+", ROOM, 16);
        faulty("law plain=(+((((((", SYNTAX, 11);
        faulty("steps 1", SYNTAX, 7);
        faulty("steps 1  \n", SYNTAX, 10);
        faulty("pilgrim a 1 plain;pilgrim a 0 plain;", TWICE, 26);
        faulty("pilgrim a 0 plain;pilgrim a 1 plain;", WRONG, 10);
        faulty("rain 1;".repeat(132) + "rain 1 1;+", SYNTAX, 933);
    }

    private static void syntax() {
        Doc.term("I", "1 SYNTAX: a TOKEN, or what is none, with which no text goes on.");
        faulty("steps 1 rain 2;", SYNTAX, 8);
        faulty("steps 1 ~;", SYNTAX, 8);
        faulty("steps 1;;", SYNTAX, 8);
        faulty("pilgrim", SYNTAX, 7);
        faulty("law plain=if 1<2 then 3 else;", SYNTAX, 28);
        faulty("law plain=if 1<2 then 3 else 4 else 5;", SYNTAX, 31);
        faulty("law plain=if 1<2<3 then 3 else 4;", SYNTAX, 16);
    }

    private static void room() {
        Doc.term("I", "a 25th number of steps, a 15th of a rain (at it);");
        String steps = "steps" + " 1".repeat(24);
        fine(steps + ";" + steps + ";");
        faulty(steps + " 1;", ROOM, 54);
        faulty("steps;" + steps + " 1 +", ROOM, 60);
        faulty(steps + " a", SYNTAX, 54);
        String rain = "rain" + " 1".repeat(14);
        fine(rain + ";" + rain + ";");
        faulty(rain + " 1;", ROOM, 33);
        faulty(steps + ";" + rain + " 100", ROOM, 87);
        Doc.term("I", "a 9th pilgrim, a 9th law (at its first TOKEN);");
        fine(eight() + "steps 1;");
        faulty(eight() + " pilgrim pa 0 plain;", ROOM, eight().length() + 1);
        String laws = "law knees=1;".repeat(8);
        fine(laws + "steps 1;");
        faulty(laws + "\nlaw up", ROOM, laws.length() + 1);
        fine(laws + eight());
        Doc.term("I", "a 5th if of a LAW (at it);");
        String ifs = "law long=" + "if 1<2 then 3 else ".repeat(4);
        fine(ifs + "4;" + ifs + "4;");
        faulty(ifs + "if 1<2 then 3 else 4;", ROOM, ifs.length());
        faulty(ifs + "4;" + ifs + "if", ROOM, 2 * ifs.length() + 2);
        faulty(ifs + "4 if", SYNTAX, ifs.length() + 2);
        Doc.term("I", "a 7th ( within one another (at it).");
        fine("law long=((((((7))))))+((((((7))))))*(7+(7+(7+(7+(7+(7))))));");
        fine("law long=" + "(7)+".repeat(9) + "7;");
        String deep = "1+2*(".repeat(6) + "1+2*1" + ")".repeat(6);
        wearIs("if " + deep + " < " + deep + " + 1 then " + deep + " - 200 else 7", 55);
        faulty("law long=(((((((7)))))));", ROOM, 15);
        faulty("law long=(7+(7+(7+(7+(7+(7+(7", ROOM, 27);
        faulty("law long=((((((7))))))-((((((7-(", ROOM, 31);
        faulty("law long=if 1<((((((1))))))then(((((((", ROOM, 37);
        faulty("law long=if(((((((", ROOM, 17);
        faulty("law long=if 1<(((((((", ROOM, 20);
        faulty("law long=if 1<2 then 3 else(((((((", ROOM, 33);
        faulty("law long=(((((()", SYNTAX, 15);
    }

    private static void roomOfTokens() {
        Doc.term("I", "2 ROOM: a 401st TOKEN;");
        String rains = "rain 1;".repeat(132);
        fine(rains + "rain 1 1;");
        fine(rains + "rain 1 1;" + blanks(1000));
        faulty(rains + "rain 1 1;rain", ROOM, 933);
        faulty(rains + "rain 1 1 ;  \n law;", ROOM, 938);
        faulty(rains + "rain 1 1 1;", ROOM, 934);
        faulty(rains + "rain 1 1 9999;", ROOM, 937);
        faulty(rains + "rain 1 1 12345;", SYNTAX, 933);
        faulty(rains + "rain 1 1;1", SYNTAX, 933);
        faulty(rains + "rain 1 1", SYNTAX, 932);
        String law = "law plain=" + "1+".repeat(197) + "1";
        fine(law + ";");
        faulty(law + "-1;", ROOM, law.length() + 2);
        faulty(law + "+", SYNTAX, law.length() + 1);
        faulty(law + "+;", SYNTAX, law.length() + 1);
        String open = "law plain=(" + "1+".repeat(198);
        faulty(open, SYNTAX, open.length());
        faulty(open + "up", ROOM, open.length());
        faulty(open + "(", ROOM, open.length());
        faulty(open + "9999", ROOM, open.length());
        faulty(open + "if", SYNTAX, open.length());
        faulty(open + "abc", SYNTAX, open.length());
        faulty(open + "abcdefghi", SYNTAX, open.length());
    }

    private static void twice() {
        Doc.term("I", "If there is none, likewise: 3 TWICE: a PILGRIM's NAME told already.");
        faulty("pilgrim a 1 plain;pilgrim a 2 knees;", TWICE, 26);
        faulty("pilgrim a 1 plain;pilgrim b 1 plain;pilgrim b 1 plain;pilgrim a 1 plain;", TWICE, 44);
        faulty(eight().replace("ph", "pa"), TWICE, eight().indexOf("ph"));
        fine("pilgrim a 1 plain;pilgrim aa 1 plain;pilgrim ab 1 plain;pilgrim ba 1 plain;");
        fine("pilgrim abcdefgh 1 plain;pilgrim abcdefgi 1 plain;pilgrim abcdefg 1 plain;pilgrim bcdefgh 1 plain;");
        faulty("pilgrim abcdefgh 1 plain;pilgrim abcdefgh 1 plain;", TWICE, 33);
        faulty("pilgrim a 1 plain;pilgrim a 2 knees", SYNTAX, 35);
        faulty("pilgrim a 1 plain;pilgrim a 2 knees;law plain=(((((((", ROOM, 52);
        SaltStairs x = Due.of("pilgrim a 1 plain;");
        Due.due("not twice in another text", Due.read(x, "pilgrim a 2 plain;"), 0);
    }

    private static void wrong() {
        Doc.term("I", "5 WRONG (at the INT): a number not as told above.");
        faulty("steps 99 0 100;", WRONG, 11);
        faulty("steps 9999;", WRONG, 6);
        faulty("steps 100;steps 1;", WRONG, 6);
        faulty("rain 10;rain 1;", WRONG, 5);
        faulty("brine 1000 100;brine 1 1;", WRONG, 6);
        faulty("pilgrim a 31 plain;pilgrim a 0 plain;", WRONG, 10);
        faulty("steps 100;steps", SYNTAX, 15);
        faulty("steps 100;" + "steps" + " 1".repeat(25), ROOM, 64);
        fine("steps 0 99;rain 0 9;brine 0 0;brine 999 99;pilgrim a 1 plain;pilgrim b 30 plain;law plain=0;law plain=9999;");
    }

    private static void faultChangesNothing() {
        Doc.term("I", "A text with a FAULT changes nothing but the tape;");
        String[] faults = {"+", "steps 1;steps", "law plain=(((((((", "pilgrim a 1 plain;pilgrim a 1 plain;", "steps 1 100;",
            "law plain=9;law stays=9;rain 9;brine 9 9;pilgrim z 9 stays;steps 9 9 9 9 999;"};
        for (String text : faults) {
            SaltStairs x = Due.of("steps 9 5;rain 0 2;brine 3 4;pilgrim a 1 plain;pilgrim b 4 stays;law plain=2;");
            x.go(0);
            x.hold(1);
            x.tell(1, 5);
            x.go(1);
            x.night(1);
            Due.due("a fault in " + text, Due.read(x, text) > 0, true);
            int[] counts = {2, 2, 7, 1, 2, 1, 1, 1, 0, 3, 1, 1};
            for (int what = 0; what < counts.length; what++) {
                Due.due("count(" + what + ") behind " + text, x.count(what), counts[what]);
            }
            Due.due("stuck behind " + text, x.go(1), 3);
            Due.due("it fits behind " + text, x.walkers(1, 0), 1);
            Due.due("law behind " + text, x.wear(0, 1, true), 2);
            Due.due("undo behind " + text, x.undo() && x.undo() && x.undo() && !x.undo(), true);
            Due.due("thick behind " + text, x.step(1, 0), 9);
            Due.due("slot behind " + text, x.restore(1), true);
            Due.due("led behind " + text, x.pilgrim(0, 3), 8);
        }
    }

    private static void inPlaceOfTheOneAhead() {
        Doc.term("I", "else it is in place of the one ahead: day 0, all PILGRIMS on the ground, nothing can be undone, "
                + "nothing is TOLD, SLOTS hold nothing.");
        SaltStairs x = Due.of("steps 9 9 4;rain 1 2;brine 3 4;pilgrim a 1 plain;pilgrim b 3 plain;pilgrim c 1 stays;law plain=2;");
        x.hold(0);
        x.go(2);
        x.go(0);
        x.go(1);
        x.tell(1, 5);
        x.night(3);
        x.hold(1);
        x.hold(2);
        Due.due("one is stuck", x.count(6), 1);
        Due.due("read", Due.read(x, "steps 7 0;pilgrim z 3 stays;pilgrim y 4 plain;pilgrim x 5 long;"), 0);
        int[] counts = {2, 3, 0, 0, 0, 1, 0, 0, 0, 0, 0, 7};
        for (int what = 0; what < counts.length; what++) {
            Due.due("count(" + what + ") anew", x.count(what), counts[what]);
        }
        for (int p = 0; p < 3; p++) {
            int[] pilgrim = {0, p + 3, p == 0 ? 3 : p == 1 ? 0 : 2, 0, 0, 0};
            for (int what = 0; what < pilgrim.length; what++) {
                Due.due("pilgrim(" + p + ", " + what + ") anew", x.pilgrim(p, what), pilgrim[what]);
            }
            Due.due("no slot", x.restore(p), false);
        }
        Due.due("no treads", x.step(1, 2), 0);
        Due.due("none on it", x.step(1, 3), 0);
        Due.due("nothing to undo", x.undo(), false);
        Due.due("nothing told", x.fits(1), -1);
        Due.due("nothing to forget", x.forget(), 0);
        Due.due("the first told", x.tell(1, 1), 0);
        Due.due("no law", x.wear(1, 1, true), 4);
        Due.due("fair anew", x.fair(), 0);
        Due.due("an empty text", x.read(), 0);
        Due.due("no steps", x.count(0), 0);
        Due.due("no pilgrims", x.count(1), 0);
        Due.due("told no more", x.count(7), 0);
    }

    private static void newObject() {
        Doc.promise(1, "Nothing is told.");
        SaltStairs x = new SaltStairs();
        for (int what = 0; what < 12; what++) {
            Due.due("count(" + what + ")", x.count(what), 0);
        }
        Due.due("steps", x.step(1, 0), -1);
        Due.due("pilgrims", x.pilgrim(0, 0), -1);
        Due.due("tell", x.tell(1, 0), -1);
        Due.due("mend", x.mend(1, 1), -1);
        Due.due("undo", x.undo(), false);
        Due.due("restore", x.restore(0), false);
        Due.due("hold", x.hold(0), true);
        Due.due("restore what was held", x.restore(0), true);
        Due.due("no rain, no brine", x.night(100), 100);
        Due.due("brine", x.count(2), 0);
        Due.due("season", x.season(100, 0), -3);
    }

    private static void feed() {
        Doc.promise(2, "Twenty bytes, the highest of a first, come behind the tape: how many it has.");
        SaltStairs x = new SaltStairs();
        Due.due("20", x.feed(0x73746570, 0x73203120, 0x32203320, 0x34203520, 0x3620373b), 20);
        Due.due("40", x.feed(0x2020207e, 0x20202020, 0x20202020, 0x20202020, 0x20202020), 40);
        Due.due("read", x.read(), SYNTAX);
        Due.due("in its order", x.place(), 23);
        Due.due("20", x.feed(0x73746570, 0x73203120, 0x32203320, 0x34203520, 0x3620373b), 20);
        Due.due("read", x.read(), 0);
        for (int step = 1; step <= 7; step++) {
            Due.due("in its order", x.step(step, 0), step);
        }
        Due.due("negative ints are bytes too", x.feed(-1, Integer.MIN_VALUE, 0x20202020, -2, -3), 20);
        Due.due("read", x.read(), SYNTAX);
        Due.due("255 is no token", x.place(), 0);
        Doc.promise(2, "NONE, and nothing comes, if it would have more than 2,000.");
        x = new SaltStairs();
        for (int i = 1; i <= 100; i++) {
            Due.due("feed", x.feed(0x20202020, 0x20202020, 0x20202020, 0x20202020, 0x20202020), 20 * i);
        }
        for (int less = 0; less < 20; less++) {
            Due.due("no room behind " + x.count(8), x.feed(0x2b2b2b2b, 0, 0, 0, 0), -1);
            Due.due("nothing came", x.count(8), 2000 - less);
            x.back(1);
        }
        Due.due("1980", x.count(8), 1980);
        Due.due("just room", x.feed(0x20202020, 0x20202020, 0x20202020, 0x20202020, 0x2020202b), 2000);
        Due.due("full", x.feed(0, 0, 0, 0, 0), -1);
        Due.due("read", x.read(), SYNTAX);
        Due.due("the last byte", x.place(), 1999);
        Due.due("room again", x.feed(0, 0, 0, 0, 0), 20);
    }

    private static void back() {
        Doc.promise(3, "The last n bytes of the tape go: how many it has.");
        SaltStairs x = new SaltStairs();
        Due.put(x, "steps 1;rain 2;steps");
        Due.due("0 go", x.back(0), 20);
        Due.due("5 go", x.back(5), 15);
        Due.due("7 go", x.back(7), 8);
        Due.due("those ahead stay", x.read(), 0);
        Due.due("a step", x.count(0), 1);
        Due.due("no rain", x.count(4), 0);
        Due.put(x, "steps 1;");
        Due.due("all go", x.back(8), 0);
        Due.due("0 of none", x.back(0), 0);
        Due.due("come anew", x.feed(0x72616920, 0, 0, 0, 0), 20);
        Due.due("17 go", x.back(17), 3);
        Due.due("behind those left", x.feed(0x6e20373b, 0x20202020, 0x20202020, 0x20202020, 0x20202020), 23);
        Due.due("rain 7", x.read(), 0);
        Due.due("rain 7", x.count(4), 1);
        Doc.promise(3, "NONE, and nothing goes, if it has not so many, or n is below 0.");
        Due.due("1 of none", x.back(1), -1);
        Due.put(x, "steps 1;");
        int[] none = {9, 2000, Integer.MAX_VALUE, -1, -8, Integer.MIN_VALUE};
        for (int n : none) {
            Due.due("back(" + n + ")", x.back(n), -1);
            Due.due("nothing went", x.count(8), 8);
        }
        Due.due("it is whole", x.read(), 0);
        Due.due("it is whole", x.step(1, 0), 1);
    }

    private static void read() {
        Doc.promise(4, "The tape, which is empty then, is read: 0, or the number of its FAULT.");
        String[] texts = {"steps 1;", "steps 1", "rain 1 1 1 1 1 1 1 1 1 1 1 1 1 1 1;", "pilgrim a 1 plain;pilgrim a 1 plain;", "rain 10;"};
        int[] faults = {0, SYNTAX, ROOM, TWICE, WRONG};
        SaltStairs x = new SaltStairs();
        for (int i = 0; i < texts.length; i++) {
            Due.due("read of " + texts[i], Due.read(x, texts[i]), faults[i]);
            Due.due("the tape is empty", x.count(8), 0);
            Due.due("none to go back", x.back(1), -1);
            Due.due("an empty tape has no fault", x.read(), 0);
        }
        Due.due("20 come", x.feed(0x20202020, 0x20202020, 0x20202020, 0x20202020, 0x20202020), 20);
    }

    private static void place() {
        Doc.promise(5, "The byte of the latest read()'s FAULT; NONE without.");
        SaltStairs x = new SaltStairs();
        Due.due("no read", x.place(), -1);
        Due.put(x, "steps 1;+");
        Due.due("not yet", x.place(), -1);
        x.read();
        Due.due("8", x.place(), 8);
        Due.read(x, "  +");
        Due.due("the latest", x.place(), 2);
        Due.put(x, "steps 1;");
        x.night(1);
        x.undo();
        Due.due("until the next read", x.place(), 2);
        x.read();
        Due.due("without", x.place(), -1);
        Due.read(x, "+");
        Due.due("the first byte", x.place(), 0);
        Due.read(x, "steps 1 200;pilgrim a 99 plain;");
        Due.due("of later faults too", x.place(), 8);
        x.read();
        Due.due("without", x.place(), -1);
    }
}
