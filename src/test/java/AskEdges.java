/** The edges of part III of the terms and of promises 14 to 22: what can be asked of a day, a set, the rain, a season. */
final class AskEdges {
    private static final int[] FAR = {-1, -2, 1000, Integer.MAX_VALUE, Integer.MIN_VALUE};
    private static final int[] NO_SETS = {4, 7, 8, 256, 512, -1, -2, 1 << 30, Integer.MAX_VALUE, Integer.MIN_VALUE};

    private AskEdges() {
    }

    static void all() {
        ordersOfSeven();
        ordersFromNow();
        bestOrder();
        needOfAll();
        needAsIfAllWereThere();
        needNeverBreaks();
        needByGone();
        bears();
        odds();
        oddsBehindNights();
        season();
        seasonFirst();
        seasonEnd();
        takenOff();
        takenOffByLaws();
        takenOffByTwo();
        bell();
        bellByPlain();
        fair();
        order();
        orderAt();
        need();
        bearsAnswers();
        oddsAnswers();
        seasonAnswers();
        rescue();
        bellAnswers();
        fairAnswers();
    }

    private static String many(int pilgrims, String how) {
        StringBuilder text = new StringBuilder();
        for (int i = 0; i < pilgrims; i++) {
            text.append("pilgrim p").append((char) ('a' + i)).append(' ').append(how).append(';');
        }
        return text.toString();
    }

    private static String steps(String thick) {
        return "steps" + (" " + thick).repeat(24) + ";";
    }

    private static void ordersOfSeven() {
        Doc.term("III", "ORDERS of a set of PILGRIMS who are on the ground (at most 7 of them, else -2),");
        SaltStairs x = Due.of("steps 90;" + many(8, "1 plain"));
        Due.due("eight", x.order(255, 0), -2);
        for (int p = 0; p < 8; p++) {
            Due.due("seven, without " + p, x.order(255 - (1 << p), 0), 7);
            Due.due("the first of them", x.orderAt(255 - (1 << p), 0), p == 0 ? 1 : 0);
            Due.due("the last of them", x.orderAt(255 - (1 << p), 6), p == 7 ? 6 : 7);
        }
        Due.due("nobody", x.order(0, 0), 0);
        x = Due.of("steps 5;" + many(1, "9 plain") + "pilgrim l 1 stays;");
        x.go(1);
        Due.due("who lives there is not on the ground", x.order(2, 0), -1);
        x = Due.of("steps 5; pilgrim a 3 plain;");
        x.go(0);
        Due.due("nor who is stuck", x.order(1, 0), -1);
        Due.due("nor who is stuck", x.orderAt(1, 0), -1);
        x.undo();
        Due.due("undone", x.order(1, 1), 1);
    }

    private static void ordersFromNow() {
        Doc.term("III", "one by one from the STAIRS as they are, this day:");
        SaltStairs x = Due.of("steps 9; rain 2 0 5; brine 9 0; pilgrim a 1 plain; pilgrim b 2 plain;");
        Due.due("9", x.order(3, 0), 2);
        x.night(2);
        Due.due("7", x.order(3, 0), 2);
        x.night(1);
        Due.due("2", x.order(3, 0), 1);
        Due.due("a", x.orderAt(3, 0), 0);
        x.mend(1, 4);
        Due.due("6", x.order(3, 0), 2);
        x.go(0);
        Due.due("4", x.order(3, 0), 1);
        Due.due("b comes, a turns", x.orderAt(3, 0), 1);
        Due.due("nothing happens", x.step(1, 0), 4);
        Due.due("another text", Due.read(x, "steps 3; pilgrim a 3 plain; pilgrim b 1 plain;"), 0);
        Due.due("by it", x.order(3, 0), 1);
        Due.due("by it", x.orderAt(3, 0), 1);
        x = Due.of("steps 12; rain 0 3; pilgrim a 1 plain; law plain = wet * day;");
        Due.due("the day", x.order(1, 0), 1);
        x.night(3);
        Due.due("the other day", x.order(1, 0), 0);
        Due.due("the other day", x.order(1, 1), 1);
        x.undo();
        Due.due("the day again", x.order(1, 1), 0);
    }

    private static void bestOrder() {
        Doc.term("III", "that by which the most come to 0 (by stays: to the monastery); of alike ones the fewest STUCK; "
                + "then the first by numbers.");
        AskingTest.best("steps 9; pilgrim a 1 stays; pilgrim b 1 stays;", 2, 0, 0, 1);
        AskingTest.best("steps 9; pilgrim a 4 stays; pilgrim b 5 stays; pilgrim c 4 stays;", 2, 0, 0, 1, 2);
        AskingTest.best("steps 6; pilgrim a 4 plain; pilgrim b 1 plain;", 1, 1, 1, 0);
        AskingTest.best("steps 9; pilgrim a 1 knees; pilgrim b 1 plain; law knees = if 8 < thick then 99 else 3;", 1, 1, 1, 0);
        AskingTest.best("steps 4; pilgrim a 1 plain; pilgrim b 2 plain;", 1, 0, 1, 0);
        AskingTest.best("steps 9; pilgrim a 1 plain; pilgrim b 1 plain; pilgrim c 1 stays; law stays = if thick < 9 then 99 else 0;",
                3, 0, 2, 0, 1);
        AskingTest.best("steps 0;" + many(7, "1 plain"), 0, 0, 0, 1, 2, 3, 4, 5, 6);
        AskingTest.best("steps 2;" + many(4, "2 plain"), 0, 1, 0, 1, 2, 3);
        AskingTest.best("steps 5; pilgrim a 3 plain; pilgrim b 6 plain; pilgrim c 6 plain;", 0, 0, 1, 0, 2);
        AskingTest.best("", 0, 0);
    }

    private static void needOfAll() {
        Doc.term("III", "NEED of the set, one by one by numbers: of each STEP the least BRINE by which it bears all treads of all of them,");
        SaltStairs x = Due.of("steps 30 20; rain 9; pilgrim a 2 plain; pilgrim b 3 plain; pilgrim c 4 stays; pilgrim d 1 knees;");
        x.night(3);
        int[] sets = {0, 1, 2, 4, 8, 3, 5, 9, 15};
        int[] first = {0, 1, 3, 1, 1, 7, 5, 5, 15};
        int[] second = {0, 4, 6, 4, 4, 10, 8, 8, 18};
        for (int i = 0; i < sets.length; i++) {
            Due.due("need(" + sets[i] + ", 1)", x.need(sets[i], 1), first[i]);
            Due.due("need(" + sets[i] + ", 2)", x.need(sets[i], 2), second[i]);
        }
        x = Due.of("steps 9 9; rain 9; pilgrim a 1 plain; pilgrim b 1 stays; law plain = 5 - 3 * up; law stays = 9 - 5 * up;");
        x.night(1);
        Due.due("2 up, 5 down", x.need(1, 1), 7);
        Due.due("4 up", x.need(2, 2), 4);
        x = Due.of("steps 9; rain 9; pilgrim a 1 plain; law plain = if thick < 5 then 3 * up else 4 * (1 - up);");
        x.night(1);
        Due.due("3 up, none down", x.need(1, 1), 4);
        String laws = "law plain = 5; law stays = if thick < 6 then 9 else 0;";
        x = Due.of("steps 30; rain 9; pilgrim a 1 plain; pilgrim b 1 stays;" + laws);
        x.night(4);
        Due.due("a, then b", x.need(3, 1), 16);
        x = Due.of("steps 30; rain 9; pilgrim a 1 stays; pilgrim b 1 plain;" + laws);
        x.night(4);
        Due.due("the other way", x.need(3, 1), 10);
    }

    private static void needAsIfAllWereThere() {
        Doc.term("III", "as if all STEPS were there and none turned back (long ones tread each second one, as above):");
        SaltStairs x = Due.of("steps 0 9 0 9; rain 8; pilgrim a 2 plain; pilgrim b 2 long;");
        x.night(1);
        Due.due("behind one that is not there", x.need(1, 2), 3);
        Due.due("behind two", x.need(1, 4), 3);
        Due.due("one that can't be", x.need(1, 3), -2);
        x = Due.of("steps 9 9; rain 9; pilgrim a 2 plain;");
        x.night(1);
        Due.due("both are mended", x.need(1, -1), 8);
        int[][] treads = {{}, {0}, {1, 1}, {0, 2, 0}, {1, 1, 1, 1}, {0, 2, 0, 2, 0}};
        for (int n = 0; n < treads.length; n++) {
            x = Due.of("steps" + " 9".repeat(n) + "; rain 9; pilgrim a 3 long;");
            x.night(1);
            for (int step = 1; step <= n; step++) {
                Due.due("need of " + step + " of " + n, x.need(1, step), 3 * treads[n][step - 1]);
            }
        }
        x = Due.of(steps("9") + "rain 9; pilgrim a 3 long;");
        x.night(1);
        Due.due("each of 24 once", x.need(1, -1), 72);
    }

    private static void needNeverBreaks() {
        Doc.term("III", "the least so that it never breaks and is there at each tread, without being THICKER than by the text;");
        SaltStairs x = Due.of("steps 5; rain 1; pilgrim a 2 plain; pilgrim b 1 stays; pilgrim c 3 plain;");
        Due.due("5 bears 4", x.need(1, 1), 0);
        Due.due("5 bears 5", x.need(3, 1), 0);
        Due.due("5 bears no 6", x.need(4, 1), -2);
        x.night(1);
        Due.due("4 bears 4", x.need(1, 1), 0);
        Due.due("just up to the text", x.need(3, 1), 1);
        x.night(1);
        Due.due("3 and 1", x.need(1, 1), 1);
        x = Due.of("steps 4; rain 4; pilgrim a 1 plain; pilgrim b 1 stays; law plain = 0; law stays = thick;");
        Due.due("there for both", x.need(1, 1), 0);
        Due.due("all of it, once", x.need(2, 1), 0);
        x.night(1);
        Due.due("to be there", x.need(1, 1), 1);
        Due.due("to be there", x.need(2, 1), 1);
        x = Due.of("steps 4; rain 4; pilgrim a 1 stays; pilgrim b 1 plain; law plain = 0; law stays = thick;");
        Due.due("not there behind a", x.need(3, 1), -2);
        x = Due.of("steps 9; rain 9; pilgrim a 1 plain; law plain = if thick < 5 then 1 else 9;");
        Due.due("as thick as it is it does not bear", x.need(1, 1), -2);
        x.night(1);
        Due.due("as thin as it may be it does", x.need(1, 1), 2);
        x = Due.of("steps 9; rain 5; pilgrim a 2 knees;");
        Due.due("each by knees", x.need(1, 1), 0);
        x.night(1);
        Due.due("8 less 4", x.need(1, 1), 4);
    }

    private static void needByGone() {
        Doc.term("III", "LAWS are asked with gone as it is now. All NEED: the sum.");
        SaltStairs x = Due.of("steps 9 9 0; rain 9 0; pilgrim a 1 stays; law stays = gone * 2 + day;");
        Due.due("one is gone", x.need(1, 1), 0);
        Due.due("it can't be there", x.need(1, 3), -2);
        Due.due("nor all", x.need(1, -1), -2);
        x.night(1);
        Due.due("three are gone, on day 1", x.need(1, 1), 7);
        x = Due.of("steps 9 9 9; rain 5 0 9; pilgrim a 1 stays; law stays = step + gone;");
        x.night(1);
        Due.due("none is gone", x.need(1, -1), 0);
        x.night(2);
        Due.due("three are gone", x.need(1, -1), 4 + 5 + 6);
        Due.due("of nobody", x.need(0, -1), 0);
        Due.due("of no steps", Due.of("pilgrim a 1 stays;").need(1, -1), 0);
        Due.due("of 24", Due.of(steps("9") + "pilgrim a 5 plain;").need(1, -1), -2);
        x = Due.of(steps("99") + "rain 9;" + many(8, "6 plain"));
        x.night(11);
        Due.due("the most", x.need(255, -1), 24 * 96);
    }

    private static void bears() {
        Doc.term("III", "BEARS: whether all of a set, one by one by numbers, come to 0.");
        SaltStairs x = Due.of("steps 6; pilgrim a 3 stays; pilgrim b 2 plain; law plain = if thick < 4 then 4 else 1;");
        Due.due("a alone", x.bears(1), 1);
        Due.due("b alone", x.bears(2), 1);
        Due.due("a, then b, does not", x.bears(3), 0);
        Due.due("the other order would", x.order(3, 0), 2);
        x = Due.of("steps 9 5; pilgrim a 1 plain; pilgrim b 3 plain; pilgrim c 30 plain; pilgrim d 1 stays; pilgrim e 2 stays;");
        int[] sets = {0, 1, 2, 4, 8, 9, 17, 25, 24, 3};
        int[] bears = {1, 1, 0, 0, 1, 1, 1, 1, 1, 0};
        for (int i = 0; i < sets.length; i++) {
            Due.due("bears(" + sets[i] + ")", x.bears(sets[i]), bears[i]);
        }
        Due.due("all eight", Due.of("steps 8;" + many(8, "1 stays")).bears(255), 1);
        Due.due("not all eight", Due.of("steps 7;" + many(8, "1 stays")).bears(255), 0);
        Due.due("by the day and the rain", Due.of("steps 9; rain 5; pilgrim a 1 plain; law plain = wet;").bears(1), 0);
    }

    private static void odds() {
        Doc.term("III", "ODDS: it RAINS r (0 .. 9) in each of n nights (0 .. 12) by a of b (b 1 .. 9, a 0 .. b):");
        SaltStairs x = Due.of("steps 20; pilgrim a 1 plain;");
        Due.due("9 twice", x.odds(1, 9, 3, 2, 5), 117);
        Due.due("r 0", x.odds(1, 0, 3, 2, 5), 125);
        Due.due("n 0", x.odds(1, 9, 0, 2, 5), 1);
        Due.due("n 12", x.odds(0, 9, 12, 9, 9), 282429536481L);
        Due.due("n 12, all dry", x.odds(1, 9, 12, 0, 9), 282429536481L);
        Due.due("n 12, all wet", x.odds(1, 1, 12, 9, 9), 282429536481L);
        Due.due("n 12, all too wet", x.odds(1, 2, 12, 9, 9), 0);
        Due.due("n 12, nine wet at most", x.odds(1, 2, 12, 1, 2), 4096 - 66 - 12 - 1);
        Due.due("b 1, a 0", x.odds(1, 9, 12, 0, 1), 1);
        Due.due("b 1, a 1", x.odds(1, 9, 12, 1, 1), 0);
        Due.due("b 9, a 8", x.odds(1, 9, 3, 8, 9), 729 - 512);
        for (int r = 0; r < 10; r++) {
            Due.due("one wet night of " + r, Due.of("steps 8; pilgrim a 1 plain;").odds(1, r, 1, 2, 7), r <= 6 ? 7 : 5);
        }
    }

    private static void oddsBehindNights() {
        Doc.term("III", "of b to the n ways those behind which (no one goes, nothing is mended; the day as it is then) "
                + "all of the set would come to 0.");
        SaltStairs x = Due.of("steps 4 9; rain 9; brine 99 9; pilgrim a 1 plain; pilgrim b 1 stays;");
        for (int wear = 1; wear <= 4; wear++) {
            Due.due("odds by rain of " + wear, x.odds(1, wear, 3, 1, 3), wear == 1 ? 26 : wear == 2 ? 20 : 8);
        }
        Due.due("nobody", x.odds(0, 1, 3, 1, 3), 27);
        Due.due("b needs 1", x.odds(2, 1, 3, 1, 3), 27);
        Due.due("both need 3", x.odds(3, 1, 3, 1, 3), 20);
        Due.due("nothing happens", x.count(9) + x.count(3), 0);
        x.night(0);
        Due.due("as they are", x.step(1, 0), 4);
        x = Due.of("steps 9 9; rain 0 5 0; pilgrim a 1 plain; law plain = if day < 3 then wet else 9;");
        int[] days = {1, 0, 1, 0, 0, 0};
        for (int n = 0; n < days.length; n++) {
            Due.due("behind " + n + " nights", x.odds(1, 0, n, 1, 2), days[n] << n);
        }
        x.night(1);
        for (int n = 0; n + 1 < days.length; n++) {
            Due.due("from day 1, behind " + n + " nights", x.odds(1, 0, n, 1, 2), days[n + 1] << n);
        }
        Due.due("by gone then", Due.of("steps 9 2; pilgrim a 1 long; law long = gone;").odds(1, 1, 2, 1, 2), 4);
        Due.due("worn away, he turns", Due.of("steps 2; pilgrim a 1 plain;").odds(1, 1, 1, 1, 2), 1);
    }

    private static void season() {
        Doc.term("III", "SEASON of n days (1 .. 100; nothing happens): each day all PILGRIMS on the ground go, one by one by numbers, "
                + "then it is NIGHT (nothing is mended):");
        SaltStairs x = Due.of("steps 99; rain 1; brine 999 99;");
        AskingTest.season(x, 1, -3, -3, -3, 0);
        AskingTest.season(x, 98, -3, -3, -3, 0);
        AskingTest.season(x, 99, 98, 1, -2, 0);
        AskingTest.season(x, 100, 98, 1, -2, 0);
        Due.due("nothing happens", x.step(1, 0) + x.count(2) + x.count(3) + x.count(9), 99 + 999);
        x.night(50);
        AskingTest.season(x, 100, 48, 1, -2, 0);
        x.mend(1, 7);
        AskingTest.season(x, 100, 55, 1, -2, 0);
        x.undo();
        AskingTest.season(x, 100, 48, 1, -2, 0);
        Due.due("another text", Due.read(x, "steps 99; rain 2;"), 0);
        AskingTest.season(x, 100, 49, 1, -2, 0);
        AskingTest.season(Due.of("steps 5; rain 1; pilgrim a 2 plain;"), 1, 0, 1, -2, 0);
        AskingTest.season(Due.of("steps 4; rain 1; pilgrim a 2 plain;"), 1, 0, 1, 0, 0);
        AskingTest.season(Due.of("steps 9; pilgrim a 1 stays;"), 100, -3, -3, -3, 0);
        AskingTest.season(Due.of("steps 9;" + many(8, "1 stays")), 100, -3, -3, -3, 0);
        AskingTest.season(Due.of("steps 8;" + many(8, "1 stays")), 100, 0, 1, 7, 0);
        AskingTest.season(Due.of("steps 9; pilgrim a 2 plain; pilgrim b 3 stays;"), 1, -3, -3, -3, 0);
        AskingTest.season(Due.of("steps 9; pilgrim a 2 plain; pilgrim b 3 stays;"), 2, 1, 1, 0, 1);
        AskingTest.season(Due.of("steps 9; pilgrim a 3 stays; pilgrim b 7 stays;"), 1, 0, 1, 1, 0);
        AskingTest.season(Due.of("steps 9; rain 0 3; pilgrim a 9 plain; law plain = wet * day;"), 1, -3, -3, -3, 0);
        AskingTest.season(Due.of("steps 9; rain 0 3; pilgrim a 9 plain; law plain = wet * day;"), 2, 1, 1, -2, 0);
        x = Due.of("steps 9; pilgrim a 9 plain; law plain = day;");
        AskingTest.season(x, 3, -3, -3, -3, 0);
        x.night(3);
        AskingTest.season(x, 1, -3, -3, -3, 0);
        AskingTest.season(x, 2, 1, 1, 0, 0);
    }

    private static void seasonFirst() {
        Doc.term("III", "on which day (from 0 on) the first STEP breaks or is worn away, which one (the least of one NIGHT's), by whom (-2 by RAIN),");
        AskingTest.season(Due.of("steps 9 3; pilgrim a 5 plain;"), 2, 0, 2, 0, 1);
        AskingTest.season(Due.of("steps 9 5; pilgrim a 5 stays;"), 2, 0, 2, 0, 0);
        AskingTest.season(Due.of("steps 9 5; pilgrim a 5 knees;"), 2, 0, 1, 0, 0);
        AskingTest.season(Due.of("steps 9 0; pilgrim a 1 plain;"), 9, 8, 1, 0, 0);
        AskingTest.season(Due.of("steps 0 3 2 2; rain 1;"), 9, 1, 3, -2, 0);
        AskingTest.season(Due.of("steps 3 2 1; rain 9;"), 9, 0, 1, -2, 0);
        AskingTest.season(Due.of("steps 0 0; rain 9; pilgrim a 1 plain;"), 9, -3, -3, -3, 0);
        AskingTest.season(Due.of("steps 9 9; rain 4; pilgrim a 1 stays; pilgrim b 5 stays;"), 9, 0, 1, -2, 0);
        AskingTest.season(Due.of("steps 8 9; rain 9; pilgrim a 1 stays; pilgrim b 7 stays;"), 9, 0, 1, 1, 0);
        AskingTest.season(Due.of("pilgrim a 1 plain; rain 9;"), 100, -3, -3, -3, 0);
        SaltStairs x = Due.of("steps 7; rain 1;");
        x.night(4);
        AskingTest.season(x, 9, 2, 1, -2, 0);
        AskingTest.season(x, 2, -3, -3, -3, 0);
        x.night(3);
        AskingTest.season(x, 9, -3, -3, -3, 0);
    }

    private static void seasonEnd() {
        Doc.term("III", "how many are STUCK in the end.");
        SaltStairs x = Due.of("steps 9 2; rain 0 9; pilgrim a 1 plain; pilgrim b 3 plain; pilgrim c 4 plain;");
        Due.due("all are on the ground", x.season(1, 3), 0);
        x = Due.of("steps 30 3; pilgrim a 2 plain; pilgrim b 3 plain; pilgrim c 30 plain;");
        AskingTest.season(x, 1, 0, 2, 0, 1);
        x.go(0);
        Due.due("he is stuck already", x.season(1, 3), 1);
        AskingTest.season(x, 2, 0, 1, 2, 1);
        x = Due.of("steps 9; pilgrim a 4 plain; pilgrim b 1 plain; pilgrim c 9 plain;");
        AskingTest.season(x, 1, 0, 1, 1, 1);
        AskingTest.season(Due.of("steps 7;" + many(8, "1 plain") + "law plain = up;"), 1, 0, 1, 6, 1);
        AskingTest.season(Due.of("steps 99 1;" + many(8, "2 plain") + "law plain = step - 1 + step / 2;"), 1, 0, 2, 0, 1);
    }

    private static void takenOff() {
        Doc.term("III", "TAKEN OFF: a STUCK one with BRINE: the least by which, from where he is, he comes DOWN to the ground "
                + "(each STEP that he treads is mended first so that it is there and bears him, never above what it was by the text;");
        SaltStairs x = Due.of(steps("1") + "pilgrim a 1 plain;");
        x.go(0);
        Due.due("from the monastery, over 24", x.rescue(0), 24);
        x = Due.of("steps 9 9 1; pilgrim a 4 plain; rain 5;");
        x.go(0);
        Due.due("he is on 2", x.pilgrim(0, 0), 2);
        Due.due("1 bears him as it is", x.rescue(0), 0);
        x.night(1);
        Due.due("4 onto none", x.rescue(0), 4);
        Due.due("nothing happens", x.count(5), 3);
        x = Due.of("steps 4; pilgrim a 3 plain;");
        x.go(0);
        Due.due("up to 3, by 3", x.rescue(0), 3);
        x = Due.of("steps 3; pilgrim a 3 plain;");
        x.go(0);
        Due.due("just what it was", x.rescue(0), 3);
        x = Due.of("steps 5; pilgrim a 3 knees;");
        Due.due("it breaks, and he is on the ground", x.go(0), 1);
        Due.due("none is stuck", x.rescue(0), -1);
        x = Due.of("steps 7; pilgrim a 3 knees;");
        x.go(0);
        Due.due("twice by knees", x.rescue(0), 6);
        x = Due.of("steps 9 1; pilgrim a 3 plain;");
        x.go(0);
        Due.due("from the first step", x.rescue(0), 0);
        x = Due.of("steps 9 9 1; rain 9; pilgrim a 3 plain; law plain = up * 3;");
        x.go(0);
        Due.due("he is on 2", x.pilgrim(0, 0), 2);
        x.night(1);
        Due.due("to be there", x.rescue(0), 1);
    }

    private static void takenOffByLaws() {
        Doc.term("III", "LAWS are asked with gone as it is now, ahead of all this mending;");
        SaltStairs x = Due.of("steps 9 9 9 1; rain 9; pilgrim a 2 plain; law plain = if day < 1 then 2 else gone;");
        x.go(0);
        Due.due("he is on 3", x.pilgrim(0, 0), 3);
        x.night(1);
        Due.due("four are gone at both", x.rescue(0), 8);
        x = Due.of("steps 9 9 9 1; rain 0 9; brine 50 0; pilgrim a 2 plain; law plain = if day < 1 then 2 else gone + day;");
        x.go(0);
        x.night(1);
        Due.due("one is gone, on day 1", x.rescue(0), 0);
        x.night(1);
        Due.due("four are gone, on day 2", x.rescue(0), 12);
        x.mend(2, 1);
        Due.due("three are gone", x.rescue(0), 4 + 5);
        x.mend(1, 5);
        Due.due("two are gone", x.rescue(0), 3);
        x.mend(2, 3);
        Due.due("4 and 5 bear him", x.rescue(0), 0);
    }

    private static void takenOffByTwo() {
        Doc.term("III", "where long ones find the next but one there as it is, they tread it, else that one mended, or the next one, "
                + "whichever costs less in all).");
        String breaks = "steps 9 9 9 9; rain 9; brine 99 0; pilgrim a 1 long; law long = if day + step + up < 2 then 99 else ";
        SaltStairs x = Due.of(breaks + "9 - step * 3;");
        Due.due("he is stuck on 3", x.go(0) * 10 + x.pilgrim(0, 0), 23);
        x.night(1);
        Due.due("6 onto 1, or 3 onto 2", x.rescue(0), 3);
        x.mend(1, 1);
        Due.due("1 is there, so 5", x.rescue(0), 5);
        x.mend(1, 5);
        Due.due("1 bears him", x.rescue(0), 0);
        x = Due.of(breaks + "step * 2;");
        Due.due("he is stuck on 3", x.go(0) * 10 + x.pilgrim(0, 0), 23);
        x.night(1);
        Due.due("2 onto 1, or 4 onto 2", x.rescue(0), 2);
        x.mend(2, 4);
        Due.due("2 bears him", x.rescue(0), 0);
        x.mend(1, 1);
        Due.due("1 is there, so 1", x.rescue(0), 1);
        x = Due.of("steps 2 9 3 9; brine 9 0; pilgrim a 3 long;");
        Due.due("he is stuck on 3", x.go(0) * 10 + x.pilgrim(0, 0), 23);
        Due.due("1 can't bear him, 2 does", x.rescue(0), 0);
        x.mend(1, 1);
        Due.due("1 is there, but can't bear him", x.rescue(0), -2);
        String down = "; rain 9; pilgrim a 1 long; law long = if day < 1 then 99 * (1 - up) else ";
        x = Due.of("steps 9 9 9" + down + "step * 2;");
        Due.due("he is stuck in the monastery", x.go(0) * 10 + x.pilgrim(0, 0), 24);
        x.night(1);
        Due.due("4 onto 2, or 6 onto 3 and more", x.rescue(0), 4);
        x = Due.of("steps 9 3 9" + down + "step * 2;");
        x.go(0);
        x.night(1);
        Due.due("2 can't, so 6 onto 3, 2 onto 1", x.rescue(0), 8);
        x = Due.of("steps 9 9 9 9" + down + "if step < 2 then 1 else if step < 3 then 8 else if step < 4 then 3 else 1;");
        Due.due("he is stuck in the monastery", x.go(0) * 10 + x.pilgrim(0, 0), 25);
        x.night(1);
        Due.due("3 onto 3, 1 onto 1: less in all than 1 onto 4 and more", x.rescue(0), 4);
    }

    private static void bell() {
        Doc.term("III", "BELL of a weight (1 .. 999): the fewest hands h (1 .. 8): the first h PILGRIMS on the ground, by numbers, go UP one by one,");
        String light = "law plain = if weight < 12 then 1 else 99;";
        SaltStairs x = Due.of("steps 50;" + many(8, "1 long") + light);
        int[] weights = {1, 10, 11, 20, 21, 30, 31, 70, 71, 80};
        int[] hands = {1, 1, 2, 2, 3, 3, 4, 7, 8, 8};
        for (int i = 0; i < weights.length; i++) {
            Due.due("bell(" + weights[i] + ")", x.bell(weights[i]), hands[i]);
        }
        Due.due("no ninth hand", x.bell(81), -2);
        Due.due("no hands", Due.of("steps 50;").bell(1), -2);
        Due.due("no steps", Due.of("pilgrim a 1 plain;").bell(999), 1);
        x = Due.of("steps 50; pilgrim a 30 stays; pilgrim b 1 plain;" + light);
        Due.due("a is the first on the ground", x.bell(1), -2);
        x.go(0);
        Due.due("b is", x.bell(1), 1);
        Due.due("there is no second", x.bell(11), -2);
        x = Due.of("steps 50; pilgrim a 9 stays; pilgrim b 9 plain; pilgrim c 8 knees; pilgrim d 1 plain;" + light);
        Due.due("all four", x.bell(8), 4);
        x.go(0);
        Due.due("three can't", x.bell(8), -2);
        Due.due("the three of them", x.bell(6), 3);
        Due.due("b and c", x.bell(4), 2);
        Due.due("b", x.bell(2), 1);
        x = Due.of("steps 7; pilgrim a 1 plain; pilgrim b 1 plain; pilgrim c 1 plain;");
        Due.due("each makes it thinner", x.bell(6), 1);
        Due.due("two by 8, three by 9", x.bell(7), -2);
        x = Due.of("steps 8; rain 2; pilgrim a 1 plain; pilgrim b 1 plain;");
        Due.due("as they are", x.bell(7), 1);
        x.night(1);
        Due.due("as they are", x.bell(5), 1);
        Due.due("as they are", x.bell(6), -2);
    }

    private static void bellByPlain() {
        Doc.term("III", "by VOW plain, each as heavy as he is and his part of the BELL (its weight by h, rounded up): "
                + "all of them come to the monastery.");
        Due.due("by knees once", Due.of("steps 9 9; pilgrim a 4 knees;").bell(5), 1);
        Due.due("long ones tread each", Due.of("steps 0 9; pilgrim a 4 long;").bell(5), -2);
        Due.due("long ones tread each", Due.of("steps 8 9; pilgrim a 4 long;").bell(5), -2);
        Due.due("up only", Due.of("steps 9 9; pilgrim a 4 plain;").bell(5), 1);
        Due.due("too heavy", Due.of("steps 9 9; pilgrim a 4 plain;").bell(6), -2);
        Due.due("not the law of his vow", Due.of("steps 9; pilgrim a 4 stays; law stays = 99;").bell(5), 1);
        Due.due("the law of plain ones", Due.of("steps 9; pilgrim a 4 stays; law plain = up * 9;").bell(999), 1);
        Due.due("the law of plain ones", Due.of("steps 9; pilgrim a 4 stays; law plain = 10;").bell(1), -2);
        Due.due("its weight is his", Due.of("steps 9; pilgrim a 4 stays; law plain = weight - 40;").bell(45), 1);
        Due.due("its weight is his", Due.of("steps 9; pilgrim a 4 stays; law plain = weight - 40;").bell(46), -2);
        Due.due("parts rounded up", Due.of("steps 15; pilgrim a 1 plain; pilgrim b 2 plain; law plain = if 8 < weight then 99 else weight;")
                .bell(11), 2);
        Due.due("parts rounded up", Due.of("steps 14; pilgrim a 1 plain; pilgrim b 2 plain; law plain = if 8 < weight then 99 else weight;")
                .bell(11), -2);
        Due.due("one turns back", Due.of("steps 20 0; pilgrim a 1 plain;").bell(1), -2);
        Due.due("the second breaks it", Due.of("steps 9; pilgrim a 1 plain; pilgrim b 9 plain; law plain = if 20 < weight then 99 else weight - 10;")
                .bell(20), -2);
    }

    private static void fair() {
        Doc.term("III", "FAIR: the greatest LED of a PILGRIM less the least.");
        SaltStairs x = Due.of("steps 90; pilgrim a 5 plain; pilgrim b 1 plain; pilgrim c 3 stays;");
        Due.due("none went", x.fair(), 0);
        x.go(0);
        Due.due("10 less 0", x.fair(), 10);
        x.go(1);
        Due.due("10 less 0", x.fair(), 10);
        x.hold(0);
        x.go(2);
        Due.due("10 less 2", x.fair(), 8);
        x.go(1);
        Due.due("10 less 3", x.fair(), 7);
        x.undo();
        Due.due("10 less 2", x.fair(), 8);
        x.restore(0);
        Due.due("10 less 0", x.fair(), 10);
        x = Due.of("steps 90; pilgrim a 1 plain; pilgrim b 2 plain; pilgrim c 9 plain;");
        x.go(0);
        x.go(1);
        Due.due("4 less 0", x.fair(), 4);
        x.go(2);
        Due.due("18 less 2", x.fair(), 16);
        x = Due.of("steps 90; pilgrim a 5 plain;");
        x.go(0);
        Due.due("one alone", x.fair(), 0);
    }

    private static void order() {
        Doc.promise(14, "ORDERS: what 0 how many come to 0, 1 how many are STUCK;");
        SaltStairs x = Due.of("steps 4; pilgrim a 2 plain; pilgrim b 3 plain;");
        Due.due("a", x.order(1, 0) * 10 + x.order(1, 1), 10);
        Due.due("b", x.order(2, 0) * 10 + x.order(2, 1), 1);
        Due.due("a, then b", x.order(3, 0) * 10 + x.order(3, 1), 10);
        for (int far : FAR) {
            Due.due("order(1, " + far + ")", x.order(1, far), -1);
        }
        Due.due("what 2", x.order(1, 2), -1);
        Doc.promise(14, "-2: more than 7;");
        SaltStairs eight = Due.of("steps 90;" + many(8, "1 plain"));
        Due.due("eight", eight.order(255, 0), -2);
        Due.due("eight", eight.order(255, 1), -2);
        Due.due("seven", eight.order(127, 0), 7);
        Due.due("seven", eight.order(254, 1), 0);
        Doc.promise(14, "NONE: no such set (bits; all on the ground).");
        for (int set : NO_SETS) {
            Due.due("order(" + set + ", 0)", x.order(set, 0), -1);
            Due.due("order(" + set + ", 1)", x.order(set, 1), -1);
        }
        Due.due("nobody", x.order(0, 0), 0);
        Due.due("nobody", x.order(0, 1), 0);
        Due.due("a ninth", eight.order(511, 0), -1);
        x.go(1);
        Due.due("b is stuck", x.order(3, 0), -1);
        Due.due("a is not", x.order(1, 0), 0);
    }

    private static void orderAt() {
        Doc.promise(15, "The i-th PILGRIM of the best order;");
        SaltStairs x = Due.of("steps 4; pilgrim a 3 plain; pilgrim b 2 plain; pilgrim c 1 stays;");
        int[] best = {1, 0, 2};
        for (int i = 0; i < 3; i++) {
            Due.due("orderAt(7, " + i + ")", x.orderAt(7, i), best[i]);
            Due.due("orderAt(" + (1 << i) + ", 0)", x.orderAt(1 << i, 0), i);
        }
        Due.due("the best of a, b and c", x.order(7, 0), 1);
        Due.due("the last of b and c", x.orderAt(6, 1), 2);
        Doc.promise(15, "NONE (looked at first): no such set, i below 0, not so many in the set;");
        for (int set : NO_SETS) {
            Due.due("orderAt(" + set + ", 0)", x.orderAt(set, 0), set == 4 ? 2 : set == 7 ? 1 : -1);
        }
        for (int far : FAR) {
            Due.due("orderAt(7, " + far + ")", x.orderAt(7, far), -1);
        }
        Due.due("a fourth", x.orderAt(7, 3), -1);
        Due.due("a second", x.orderAt(1, 1), -1);
        Due.due("of nobody", x.orderAt(0, 0), -1);
        SaltStairs eight = Due.of("steps 90;" + many(8, "1 plain"));
        Due.due("a ninth", eight.orderAt(255, 8), -1);
        Due.due("below 0", eight.orderAt(255, -1), -1);
        Due.due("no such set", eight.orderAt(511, 0), -1);
        Doc.promise(15, "-2 likewise.");
        for (int i = 0; i < 8; i++) {
            Due.due("eight", eight.orderAt(255, i), -2);
        }
        Due.due("seven", eight.orderAt(127, 6), 6);
    }

    private static void need() {
        Doc.promise(16, "NEED of a STEP (NONE: all);");
        SaltStairs x = Due.of("steps 9 9 2; rain 8 1; pilgrim a 2 plain; pilgrim b 1 stays;");
        x.night(1);
        Due.due("of 1", x.need(1, 1), 3);
        Due.due("of 3", x.need(2, 3), 1);
        Due.due("of all", x.need(2, SaltStairs.NONE), 1);
        Doc.promise(16, "-2: it can't be (all: of some STEP);");
        Due.due("of 3", x.need(1, 3), -2);
        Due.due("of all", x.need(1, SaltStairs.NONE), -2);
        Due.due("of the first of all", Due.of("steps 0 9; pilgrim a 1 plain;").need(1, -1), -2);
        Doc.promise(16, "NONE: no such ones.");
        for (int set : NO_SETS) {
            Due.due("need(" + set + ", 1)", x.need(set, 1), -1);
            Due.due("need(" + set + ", -1)", x.need(set, -1), -1);
        }
        for (int step : new int[] {0, 4, 5, 25, -2, Integer.MAX_VALUE, Integer.MIN_VALUE}) {
            Due.due("need(1, " + step + ")", x.need(1, step), -1);
            Due.due("need(0, " + step + ")", x.need(0, step), -1);
        }
        x = Due.of("steps 9; pilgrim a 1 stays;");
        x.go(0);
        Due.due("not on the ground", x.need(1, 1), -1);
        Due.due("not on the ground", x.need(1, -1), -1);
    }

    private static void bearsAnswers() {
        Doc.promise(17, "1 if it BEARS, else 0;");
        SaltStairs x = Due.of("steps 4; rain 1; pilgrim a 2 plain; pilgrim b 1 stays;");
        Due.due("a", x.bears(1), 1);
        Due.due("a and b", x.bears(3), 0);
        Due.due("nobody", x.bears(0), 1);
        Due.due("nothing happens", x.step(1, 0) + x.step(1, 2), 4);
        x.night(1);
        Due.due("a no more", x.bears(1), 0);
        Doc.promise(17, "NONE: no such set.");
        for (int set : NO_SETS) {
            Due.due("bears(" + set + ")", x.bears(set), -1);
        }
        x.go(1);
        Due.due("b lives there", x.bears(2), -1);
        Due.due("b lives there", x.bears(3), -1);
        Due.due("all eight", Due.of(many(8, "1 plain")).bears(255), 1);
    }

    private static void oddsAnswers() {
        Doc.promise(18, "ODDS; -1: no such ones.");
        SaltStairs x = Due.of("steps 9; pilgrim a 1 plain; pilgrim b 1 stays;");
        Due.due("the least", x.odds(0, 0, 0, 0, 1), 1);
        Due.due("the most", x.odds(3, 0, 12, 9, 9), 282429536481L);
        for (int set : NO_SETS) {
            Due.due("odds(" + set + ", 1, 1, 1, 1)", x.odds(set, 1, 1, 1, 1), -1);
        }
        for (int far : FAR) {
            Due.due("r " + far, x.odds(1, far, 1, 1, 1), -1);
            Due.due("n " + far, x.odds(1, 1, far, 1, 1), -1);
            Due.due("a " + far, x.odds(1, 1, 1, far, 9), -1);
            Due.due("b " + far, x.odds(1, 1, 1, 0, far), -1);
        }
        Due.due("r 10", x.odds(1, 10, 1, 1, 1), -1);
        Due.due("n 13", x.odds(1, 1, 13, 1, 1), -1);
        Due.due("a above b", x.odds(1, 1, 1, 2, 1), -1);
        Due.due("a above b", x.odds(1, 1, 0, 9, 8), -1);
        Due.due("b 0", x.odds(1, 1, 1, 0, 0), -1);
        Due.due("b 10", x.odds(1, 1, 1, 1, 10), -1);
        x.go(1);
        Due.due("b lives there", x.odds(2, 1, 1, 1, 1), -1);
    }

    private static void seasonAnswers() {
        Doc.promise(19, "SEASON: what 0 the day, 1 the STEP, 2 by whom (0, 1, 2: -3 if none breaks), 3 how many are STUCK;");
        SaltStairs x = Due.of("steps 9 7; pilgrim a 1 stays; pilgrim b 2 plain;");
        int[] season = {1, 2, 1, 1};
        int[] none = {-3, -3, -3, 0};
        for (int what = 0; what < 4; what++) {
            Due.due("season(1, " + what + ")", x.season(1, what), none[what]);
            Due.due("season(2, " + what + ")", x.season(2, what), season[what]);
        }
        Doc.promise(19, "NONE: no such ones.");
        for (int far : FAR) {
            Due.due("season(" + far + ", 0)", x.season(far, 0), -1);
            Due.due("season(1, " + far + ")", x.season(1, far), -1);
        }
        Due.due("season(0, 0)", x.season(0, 0), -1);
        Due.due("season(101, 3)", x.season(101, 3), -1);
        Due.due("season(1, 4)", x.season(1, 4), -1);
        Due.due("season(100, 0)", x.season(100, 0), 1);
    }

    private static void rescue() {
        Doc.promise(20, "TAKEN OFF: the BRINE;");
        SaltStairs x = Due.of("steps 2 3 1; rain 3 0 1; pilgrim a 1 plain; pilgrim b 1 stays; pilgrim c 2 plain;");
        Due.due("stuck", x.go(0), 2);
        Due.due("in the monastery", x.pilgrim(0, 0), 4);
        Due.due("1, 0 and 0", x.rescue(0), 1);
        x.night(1);
        Due.due("1, 1 and 1", x.rescue(0), 3);
        Due.due("whatever brine there is", x.count(2), 0);
        Due.due("nothing happens", x.count(5), 3);
        Doc.promise(20, "-2: it can't be (some STEP would be above what it was);");
        x = Due.of("steps 2 9 9; pilgrim a 3 stays; pilgrim b 1 plain; law plain = if day < 1 then 2 else 3; law stays = 0; rain 0 9;");
        Due.due("stuck", x.go(1), 2);
        Due.due("2 onto 1", x.rescue(1), 2);
        x.night(1);
        Due.due("3 onto 1, that was 2", x.rescue(1), -2);
        Doc.promise(20, "NONE: no such one, not STUCK.");
        for (int far : FAR) {
            Due.due("rescue(" + far + ")", x.rescue(far), -1);
        }
        Due.due("a third", x.rescue(2), -1);
        Due.due("on the ground", x.rescue(0), -1);
        x = Due.of("steps 9; pilgrim a 1 stays;");
        x.go(0);
        Due.due("in the monastery", x.rescue(0), -1);
        x = Due.of("steps 1; pilgrim a 1 plain;");
        x.go(0);
        Due.due("stuck", x.rescue(0), 1);
        x.undo();
        Due.due("undone", x.rescue(0), -1);
    }

    private static void bellAnswers() {
        Doc.promise(21, "BELL: how many hands; -2: none do; NONE: no such weight.");
        SaltStairs x = Due.of("steps 99; pilgrim a 1 plain; pilgrim b 2 knees; law plain = if weight < 504 then 1 else 99 + up * step;");
        Due.due("one", x.bell(1), 1);
        Due.due("one", x.bell(502), 1);
        x = Due.of("steps 98; pilgrim a 1 plain; pilgrim b 2 knees; law plain = if weight < 504 then 1 else 99;");
        Due.due("one", x.bell(502), 1);
        Due.due("two", x.bell(503), 2);
        Due.due("the most", x.bell(999), 2);
        Due.due("none do", Due.of("steps 98; pilgrim a 1 plain;").bell(98), -2);
        Due.due("none do", Due.of("steps 98; pilgrim a 1 plain;").bell(999), -2);
        for (int far : FAR) {
            Due.due("bell(" + far + ")", x.bell(far), -1);
        }
        Due.due("bell(0)", x.bell(0), -1);
        Due.due("bell(1000)", x.bell(1000), -1);
        Due.due("bell(0) of nobody", new SaltStairs().bell(0), -1);
        Due.due("nothing happens", x.step(1, 0) + x.count(9), 98);
    }

    private static void fairAnswers() {
        Doc.promise(22, "FAIR; -2: no PILGRIMS.");
        Due.due("a new object", new SaltStairs().fair(), -2);
        Due.due("a text of none", Due.of("steps 9;").fair(), -2);
        Due.due("one", Due.of("pilgrim a 1 plain;").fair(), 0);
        Due.due("eight", Due.of(many(8, "1 plain")).fair(), 0);
    }
}
