/** The edges of part II of the terms and of promises 6 to 13 and 28 to 30: who goes, what wears, what is undone and held. */
final class WayEdges {
    private static final int[] FAR = {-1, -2, 100, 1000, Integer.MAX_VALUE, Integer.MIN_VALUE};

    private WayEdges() {
    }

    static void all() {
        places();
        there();
        byOne();
        byTwo();
        byTwoOverGaps();
        turnsOrIsStuck();
        wearIsHeld();
        breaks();
        breaksByTheSecond();
        firstIfThatHolds();
        wraps();
        dividedByNothing();
        vars();
        gone();
        outcomes();
        led();
        night();
        mending();
        step();
        pilgrim();
        wear();
        go();
        would();
        nights();
        mend();
        mendNot();
        undo();
        undoForty();
        hold();
        restore();
        restoreNot();
        count();
    }

    private static void counts(SaltStairs x, int... counts) {
        for (int what = 0; what < counts.length; what++) {
            Due.due("count(" + what + ")", x.count(what), counts[what]);
        }
    }

    private static String steps(String thick) {
        return "steps" + (" " + thick).repeat(24) + ";";
    }

    private static void places() {
        Doc.term("II", "PLACES: 0 the ground, 1 .. STEPS, and STEPS + 1 the monastery.");
        GoingTest.goes("pilgrim a 2 stays;", 0, 1, 0);
        GoingTest.goes("steps 9; pilgrim a 2 stays;", 0, 2, 2, 7);
        GoingTest.goes(steps("9") + "pilgrim a 2 stays;", 0, 25, 48);
        GoingTest.goes(steps("9") + "pilgrim a 2 plain;", 0, 0, 96);
        GoingTest.goes("steps 9 1; pilgrim a 2 plain;", 2, 1, 3, 7, 0);
        Due.due("all begin on the ground", Due.of("pilgrim a 2 stays;").pilgrim(0, 0), 0);
    }

    private static void there() {
        Doc.term("II", "A STEP is there if it is THICK 1 or more.");
        GoingTest.goes("steps 1 1; pilgrim a 1 plain; law plain = 0;", 0, 0, 0, 1, 1);
        GoingTest.goes("steps 1 0; pilgrim a 1 plain; law plain = 0;", 1, 0, 0, 1, 0);
        GoingTest.goes("steps 0 1; pilgrim a 1 plain; law plain = 0;", 1, 0, 0, 0, 1);
        Due.due("two are not there", Due.of("steps 0 1 0 2;").count(5), 2);
    }

    private static void byOne() {
        Doc.term("II", "A PILGRIM on the ground goes UP, then, but by the VOW stays, DOWN: from a place to the next one by one up (down);");
        GoingTest.goes("steps 9 8 7; pilgrim a 1 plain;", 0, 0, 6, 7, 6, 5);
        GoingTest.goes("steps 9 8 7; pilgrim a 1 stays;", 0, 4, 3, 8, 7, 6);
        GoingTest.goes("steps 9 8 7; pilgrim a 1 knees;", 0, 0, 12, 5, 4, 3);
        GoingTest.goes("steps 9 8 7; pilgrim a 1 plain; law plain = up * step;", 0, 0, 6, 8, 6, 4);
        GoingTest.goes("steps 9 8 7; pilgrim a 1 plain; law plain = (1 - up) * step;", 0, 0, 6, 8, 6, 4);
    }

    private static void byTwo() {
        Doc.term("II", "by the VOW long to the next but one, if that is there (ground and monastery are) or beyond these to them, "
                + "else to the next one.");
        GoingTest.goes("pilgrim a 1 long;", 0, 0, 0);
        GoingTest.goes("steps 9; pilgrim a 1 long;", 0, 0, 0, 9);
        GoingTest.goes("steps 0; pilgrim a 1 long;", 0, 0, 0, 0);
        GoingTest.goes("steps 9 9; pilgrim a 1 long;", 0, 0, 2, 8, 8);
        GoingTest.goes("steps 9 9 9; pilgrim a 1 long;", 0, 0, 2, 9, 7, 9);
        GoingTest.goes("steps 9 9 9 9 9; pilgrim a 1 long;", 0, 0, 4, 9, 7, 9, 7, 9);
        SaltStairs x = Due.of(steps("9") + "pilgrim a 1 long;");
        Due.due("24 steps", x.go(0), 0);
        for (int step = 1; step <= 24; step++) {
            Due.due("each once", x.step(step, 2), 1);
        }
    }

    private static void byTwoOverGaps() {
        GoingTest.goes("steps 9 0 9; pilgrim a 1 long;", 0, 0, 4, 7, 0, 7);
        GoingTest.goes("steps 0 9 0; pilgrim a 1 long;", 0, 0, 2, 0, 7, 0);
        GoingTest.goes("steps 9 0 0; pilgrim a 1 long;", 1, 0, 1, 8, 0, 0);
        GoingTest.goes("steps 0 0 9; pilgrim a 1 long;", 1, 0, 0, 0, 0, 9);
        GoingTest.goes("steps 5 5 0 5; pilgrim a 1 long;", 0, 0, 4, 5, 3, 0, 3);
        GoingTest.goes("steps 5 5 5 0 0 5; pilgrim a 1 long;", 1, 0, 3, 4, 4, 4, 0, 0, 5);
        GoingTest.goes("steps 5 5 5 1 5; pilgrim a 1 long;", 0, 0, 5, 4, 4, 4, 0, 4);
        GoingTest.goes("steps 5 5 5 1; pilgrim a 1 long; law long = up;", 0, 0, 2, 5, 4, 5, 0);
    }

    private static void turnsOrIsStuck() {
        Doc.term("II", "If the one he would come to is not there, he turns back, UP: he goes DOWN again by the same rule; "
                + "DOWN: he is STUCK where he is.");
        GoingTest.goes("steps 0; pilgrim a 1 plain;", 1, 0, 0, 0);
        GoingTest.goes("steps 9 9 0; pilgrim a 1 plain;", 1, 0, 3, 7, 8, 0);
        GoingTest.goes("steps 9 9 0; pilgrim a 1 stays;", 1, 0, 3, 7, 8, 0);
        GoingTest.goes("steps 9 9 9 0 0; pilgrim a 1 long;", 1, 0, 3, 8, 8, 8, 0, 0);
        GoingTest.goes("steps 1 9 0; pilgrim a 1 plain;", 2, 2, 2, 0, 8, 0);
        GoingTest.goes("steps 1 9 0; pilgrim a 1 stays;", 2, 2, 2, 0, 8, 0);
        GoingTest.goes("steps 1; pilgrim a 1 plain;", 2, 2, 1, 0);
        GoingTest.goes("steps 9 1; pilgrim a 1 plain;", 2, 3, 2, 8, 0);
        GoingTest.goes(steps("1") + "pilgrim a 1 plain;", 2, 25, 24);
        GoingTest.goes("steps 1 1; pilgrim a 1 knees; law knees = up * (step - 1) * thick;", 2, 3, 1, 1, 0);
        GoingTest.goes("steps 9 1 9 1 9; pilgrim a 1 long;", 0, 0, 5, 8, 0, 8, 0, 8);
        GoingTest.goes("steps 1 0 1; pilgrim a 1 long;", 2, 4, 2, 0, 0, 0);
    }

    private static void wearIsHeld() {
        Doc.term("II", "To TREAD a STEP: WEAR as the LAW of his VOW tells, held to 0 .. 99, by knees twice, one behind the other; "
                + "each makes it so much less THICK.");
        String[] laws = {"0", "0 - 1", "0 - 9999", "1", "98", "99", "100", "9999", "9999 * 9999"};
        int[] wears = {0, 0, 0, 1, 98, 99, 99, 99, 99};
        for (int i = 0; i < laws.length; i++) {
            GoingTest.wearIs(laws[i], wears[i]);
            GoingTest.goes("steps 99; pilgrim a 1 stays; law stays = " + laws[i] + ";", 0, 2, wears[i], 99 - wears[i]);
        }
        GoingTest.goes("steps 99; pilgrim a 1 plain; law plain = up * 999;", 2, 2, 99, 0);
        GoingTest.goes("steps 9; pilgrim a 30 knees; law knees = 2;", 0, 0, 8, 1);
        GoingTest.goes("steps 8; pilgrim a 30 knees; law knees = thick / 2;", 0, 0, 7, 1);
    }

    private static void breaks() {
        Doc.term("II", "If it is less THICK than the WEAR, it breaks: it is THICK 0 then, and he is STUCK at the place from which "
                + "he came (the ground: he is on the ground, and turned back).");
        GoingTest.goes("steps 5; pilgrim a 5 stays;", 0, 2, 5, 0);
        GoingTest.goes("steps 4; pilgrim a 5 stays;", 1, 0, 4, 0);
        GoingTest.goes("steps 1; pilgrim a 30 plain;", 1, 0, 1, 0);
        GoingTest.goes("steps 9 4; pilgrim a 5 stays;", 2, 1, 9, 4, 0);
        GoingTest.goes("steps 9 4; pilgrim a 5 plain;", 2, 1, 9, 4, 0);
        GoingTest.goes("steps 9; pilgrim a 5 plain;", 2, 2, 9, 0);
        GoingTest.goes("steps 9 10; pilgrim a 5 plain;", 2, 2, 19, 0, 0);
        GoingTest.goes("steps 10; pilgrim a 5 plain;", 0, 0, 10, 0);
        GoingTest.goes("steps 9 4; pilgrim a 5 long;", 1, 0, 4, 9, 0);
        GoingTest.goes("steps 9 9 9 4 9; pilgrim a 5 long;", 2, 2, 9, 9, 4, 9, 0, 9);
        GoingTest.goes("steps 4 9 9 9; pilgrim a 5 long;", 2, 3, 19, 0, 4, 4, 4);
        GoingTest.goes("steps 9 9 0; pilgrim a 5 plain;", 2, 2, 14, 0, 4, 0);
        GoingTest.goes("steps 9 0; pilgrim a 5 plain;", 1, 0, 5, 4, 0);
        GoingTest.goes(steps("9").replace("9;", "1;") + "pilgrim a 2 stays;", 2, 23, 47);
        SaltStairs x = Due.of("steps 4; pilgrim a 5 plain;");
        x.go(0);
        Due.due("what broke bore no tread", x.step(1, 2), 0);
        Due.due("he may go again", x.go(0), 1);
    }

    private static void breaksByTheSecond() {
        Doc.term("II", "(By knees the second WEAR may break it as well.)");
        GoingTest.goes("steps 3; pilgrim a 2 knees;", 1, 0, 3, 0);
        GoingTest.goes("steps 2; pilgrim a 2 knees;", 1, 0, 2, 0);
        GoingTest.goes("steps 4; pilgrim a 2 knees;", 2, 2, 4, 0);
        GoingTest.goes("steps 9 3; pilgrim a 2 knees;", 2, 1, 7, 5, 0);
        GoingTest.goes("steps 7; pilgrim a 2 knees;", 2, 2, 7, 0);
        GoingTest.goes("steps 8; pilgrim a 2 knees;", 0, 0, 8, 0);
        GoingTest.goes("steps 5; pilgrim a 1 knees; law knees = if thick < 5 then 0 else 5;", 2, 2, 5, 0);
        SaltStairs x = Due.of("steps 3; pilgrim a 2 knees;");
        x.go(0);
        Due.due("the first it bore", x.step(1, 2), 1);
    }

    private static void firstIfThatHolds() {
        Doc.term("II", "LAWS: the E of the first if that holds (one less than the other), else the last one;");
        GoingTest.wearIs("if 4 < 5 then 1 else 2", 1);
        GoingTest.wearIs("if 5 < 5 then 1 else 2", 2);
        GoingTest.wearIs("if 6 < 5 then 1 else 2", 2);
        GoingTest.wearIs("if 0 - 1 < 0 then 1 else 2", 1);
        GoingTest.wearIs("if 5 < 5 then 1 else if 4 < 5 then 2 else if 3 < 5 then 3 else 4", 2);
        String ifs = "if step < 1 then 1 else if step < 2 then 2 else if step < 3 then 3 else if step < 4 then 4 else 5";
        SaltStairs x = Due.of("steps 9 9 9 9 9; pilgrim a 1 plain; law plain = " + ifs + ";");
        for (int step = 1; step <= 5; step++) {
            Due.due("wear on " + step, x.wear(0, step, true), Math.min(5, step + 1));
        }
    }

    private static void wraps() {
        Doc.term("II", "ints of 32 bits that wrap, / rounded towards 0;");
        String least = "8192 * 8192 * 32";
        GoingTest.wearIs("if " + least + " < 0 then 1 else 2", 1);
        GoingTest.wearIs("if 0 < " + least + " - 1 then 1 else 2", 1);
        GoingTest.wearIs("if " + least + " - 1 + 1 < 0 then 1 else 2", 1);
        GoingTest.wearIs("if 0 - " + least + " < 0 then 1 else 2", 1);
        GoingTest.wearIs("if " + least + " / (0 - 1) < 0 then 1 else 2", 1);
        GoingTest.wearIs("7 + " + least + " * 2", 7);
        GoingTest.wearIs("7 + 8192 * 8192 * 64", 7);
        GoingTest.wearIs("(" + least + " - 1) / 8192 / 8192", 31);
        GoingTest.wearIs("9 + 7 / 2", 12);
        GoingTest.wearIs("9 + (0 - 7) / 2", 6);
        GoingTest.wearIs("9 + 7 / (0 - 2)", 6);
        GoingTest.wearIs("9 + (0 - 7) / (0 - 2)", 12);
        GoingTest.wearIs("9 + (0 - 1) / 2", 9);
        GoingTest.wearIs("9 + 0 / 5", 9);
    }

    private static void dividedByNothing() {
        Doc.term("II", "a LAW in which something that is looked at is divided by 0 is 0.");
        GoingTest.wearIs("5 / 0", 0);
        GoingTest.wearIs("0 / 0", 0);
        GoingTest.wearIs("5 + 1 / 0", 0);
        GoingTest.wearIs("5 + 0 * (1 / (step - 2))", 0);
        GoingTest.wearIs("1 / 0 + 5", 0);
        GoingTest.wearIs("if 1 / 0 < 1 then 7 else 8", 0);
        GoingTest.wearIs("if 1 < 1 / 0 then 7 else 8", 0);
        GoingTest.wearIs("if 1 < 2 then 1 / 0 else 8", 0);
        GoingTest.wearIs("if 2 < 1 then 7 else 1 / 0", 0);
        GoingTest.wearIs("if 2 < 1 then 7 else if 1 / 0 < 1 then 8 else 9", 0);
        GoingTest.wearIs("if 1 < 2 then 7 else 1 / 0", 7);
        GoingTest.wearIs("if 2 < 1 then 1 / 0 else 8", 8);
        GoingTest.wearIs("if 1 < 2 then 7 else if 1 / 0 < 1 then 8 else 9", 7);
        GoingTest.goes("steps 1 1; pilgrim a 9 plain; law plain = 5 / (step - step);", 0, 0, 0, 1, 1);
    }

    private static void vars() {
        Doc.term("II", "weight; thick: of that STEP as it is; step: its number; day; wet: RAIN of the day; up: 1 UP, 0 DOWN;");
        String text = "steps 9 20; rain 3 0 8; brine 9 0; pilgrim a 30 stays; law stays = ";
        Due.due("weight", Due.of(text + "weight;").wear(0, 1, true), 30);
        SaltStairs x = Due.of(text + "thick;");
        Due.due("thick", x.wear(0, 1, true), 9);
        x.night(1);
        Due.due("as it is", x.wear(0, 1, true), 6);
        x.night(2);
        Due.due("none", x.wear(0, 1, true), 0);
        x = Due.of(text + "step;");
        Due.due("the first", x.wear(0, 1, true), 1);
        Due.due("the second", x.wear(0, 2, true), 2);
        x = Due.of(text + "day;");
        Due.due("day 0", x.wear(0, 1, true), 0);
        x.night(50);
        Due.due("day 50", x.wear(0, 1, true), 50);
        x.night(50);
        Due.due("day 100, held", x.wear(0, 1, true), 99);
        x = Due.of(text + "wet;");
        int[] rain = {3, 0, 8, 3, 0};
        for (int day = 0; day < rain.length; day++) {
            Due.due("wet on day " + day, x.wear(0, 1, true), rain[day]);
            x.night(1);
        }
        x = Due.of(text + "7 + up;");
        Due.due("up", x.wear(0, 1, true), 8);
        Due.due("down", x.wear(0, 1, false), 7);
    }

    private static void gone() {
        Doc.term("II", "gone: how many STEPS are not there now.");
        SaltStairs x = Due.of("steps 9 0 3 1; rain 1; brine 9 0; pilgrim a 1 plain; law plain = 5 + gone;");
        Due.due("by the text", x.wear(0, 1, true), 6);
        x.night(1);
        Due.due("worn away", x.wear(0, 1, true), 7);
        x.mend(4, 1);
        Due.due("mended", x.wear(0, 1, true), 6);
        Due.due("it bears him", x.go(0), 1);
        Due.due("as many", x.wear(0, 1, true), 6);
        Due.due("it breaks", x.go(0), 1);
        Due.due("broken", x.wear(0, 1, true), 7);
        x.undo();
        Due.due("undone", x.wear(0, 1, true), 6);
        Due.due("none gone", Due.of("steps 1; pilgrim a 1 plain; law plain = gone;").wear(0, 1, true), 0);
        Due.due("all gone", Due.of(steps("0") + "pilgrim a 1 plain; law plain = gone;").wear(0, 1, true), 24);
        GoingTest.goes("steps 2 9 9; pilgrim a 1 plain; law plain = 2 + gone;", 2, 2, 14, 0, 3, 3);
    }

    private static void outcomes() {
        Doc.term("II", "What comes of it: 0 he was in the monastery and is on the ground (by stays: in the monastery, where he "
                + "lives then, and counts as no STUCK one), 1 he turned back and is on the ground, 2 he is STUCK.");
        GoingTest.goes("steps 9; pilgrim a 2 plain;", 0, 0, 4, 5);
        GoingTest.goes("steps 9; pilgrim a 2 stays;", 0, 2, 2, 7);
        GoingTest.goes("steps 0; pilgrim a 2 stays;", 1, 0, 0, 0);
        GoingTest.goes("steps 9 0; pilgrim a 2 plain;", 1, 0, 2, 7, 0);
        GoingTest.goes("steps 3; pilgrim a 2 plain;", 2, 2, 3, 0);
        GoingTest.goes("steps 3 1; pilgrim a 2 stays;", 2, 1, 3, 1, 0);
        SaltStairs x = Due.of("steps 9; pilgrim a 2 stays; pilgrim b 9 plain;");
        x.go(0);
        Due.due("he lives there", x.go(0), 3);
        Due.due("not stuck", x.pilgrim(0, 5), 0);
        Due.due("no stuck one", x.count(6), 0);
        Due.due("none to take off", x.rescue(0), -1);
        Due.due("none in the end", x.season(1, 3), 0);
    }

    private static void led() {
        Doc.term("II", "LED: all he made less THICK (a STEP that breaks: what was left of it) is his.");
        GoingTest.goes("steps 9 9; pilgrim a 2 plain;", 0, 0, 8, 5, 5);
        GoingTest.goes("steps 3; pilgrim a 5 plain;", 1, 0, 3, 0);
        GoingTest.goes("steps 9 3; pilgrim a 5 plain;", 2, 1, 8, 4, 0);
        GoingTest.goes("steps 3; pilgrim a 2 knees;", 1, 0, 3, 0);
        SaltStairs x = Due.of("steps 9; rain 1; brine 9 0; pilgrim a 1 plain; pilgrim b 2 plain;");
        x.go(0);
        x.night(1);
        x.mend(1, 2);
        x.go(1);
        x.go(0);
        Due.due("his of two goings", x.pilgrim(0, 3), 4);
        Due.due("the other's", x.pilgrim(1, 3), 4);
    }

    private static void night() {
        Doc.term("II", "A NIGHT: each STEP that is there gets less THICK by the RAIN of the day (0 at least), BRINE grows "
                + "(9999 at most), it is the next day.");
        SaltStairs x = Due.of("steps 9 4 3 5 0; rain 4 0 5; brine 999 99;");
        Due.due("the first night", x.night(1), 1);
        GoingTest.thick(x, 5, 0, 0, 1, 0);
        counts(x, 5, 0, 1098, 1, 3, 3);
        Due.due("a dry night", x.night(1), 2);
        GoingTest.thick(x, 5, 0, 0, 1, 0);
        Due.due("a wet one", x.night(1), 3);
        GoingTest.thick(x, 0, 0, 0, 0, 0);
        Due.due("all are gone", x.count(5), 5);
        x.night(87);
        Due.due("brine below the most", x.count(2), 999 + 90 * 99);
        x.night(1);
        Due.due("the most", x.count(2), 9999);
        x.night(100);
        Due.due("no more", x.count(2), 9999);
        Due.due("day", x.count(3), 191);
        x = Due.of("brine 999 90;");
        x.night(100);
        Due.due("just the most", x.count(2), 9999);
    }

    private static void mending() {
        Doc.term("II", "MENDING: each 1 of BRINE makes a STEP 1 THICKER, never above what it was by the text.");
        SaltStairs x = Due.of("steps 9 2; rain 5; brine 9 0;");
        Due.due("it is what it was", x.mend(1, 1), -2);
        x.night(1);
        Due.due("one above", x.mend(1, 6), -2);
        Due.due("2", x.mend(1, 2), 7);
        GoingTest.thick(x, 6, 0);
        Due.due("3 more", x.mend(1, 3), 4);
        GoingTest.thick(x, 9, 0);
        Due.due("no more", x.mend(1, 1), -2);
        Due.due("one above", x.mend(2, 3), -2);
        Due.due("the other, that was gone", x.mend(2, 2), 2);
        counts(x, 2, 0, 2, 1, 1, 0);
        Due.due("never thick by the text", Due.of("steps 0; brine 9 9;").mend(1, 1), -2);
    }

    private static void step() {
        Doc.promise(6, "Of a STEP: what 0 how THICK, 1 how THICK by the text, 2 how many treads it bore (by knees each WEAR), "
                + "3 how many PILGRIMS are on it.");
        SaltStairs x = Due.of("steps 30 3 9; pilgrim a 3 plain; pilgrim b 1 knees;");
        Due.due("b breaks 2 by his second knee", x.go(1), 2);
        Due.due("a turns back", x.go(0), 1);
        int[][] steps = {{25, 30, 3, 0}, {0, 3, 3, 0}, {5, 9, 4, 1}};
        for (int step = 1; step <= 3; step++) {
            for (int what = 0; what < 4; what++) {
                Due.due("step(" + step + ", " + what + ")", x.step(step, what), steps[step - 1][what]);
            }
        }
        x = Due.of("steps 30 2 9; brine 9 0; rain 1; pilgrim a 3 plain; pilgrim b 3 plain; pilgrim c 3 stays; pilgrim d 1 stays;");
        x.go(0);
        x.night(1);
        x.mend(2, 1);
        x.go(2);
        Due.due("two on one step", x.step(1, 3), 2);
        Due.due("none on the ground is on a step", x.step(2, 3), 0);
        x = Due.of("steps 9; pilgrim a 1 stays;");
        x.go(0);
        Due.due("nor one in the monastery", x.step(1, 3), 0);
        Doc.promise(6, "NONE for others.");
        for (int far : FAR) {
            Due.due("step(" + far + ", 0)", x.step(far, 0), -1);
            Due.due("step(1, " + far + ")", x.step(1, far), -1);
        }
        Due.due("the ground", x.step(0, 0), -1);
        Due.due("the monastery", x.step(2, 0), -1);
        Due.due("what 4", x.step(1, 4), -1);
        Due.due("the 24th", Due.of(steps("7")).step(24, 1), 7);
        Due.due("a 25th", Due.of(steps("7")).step(25, 1), -1);
    }

    private static void pilgrim() {
        Doc.promise(7, "Of a PILGRIM: what 0 the place where he is, 1 WEIGHT, 2 VOW (0 plain, 1 knees, 2 long, 3 stays), 3 LED, "
                + "4 how often he came to 0, 5: 1 if STUCK, else 0.");
        SaltStairs x = Due.of("steps 40 17; pilgrim a 2 plain; pilgrim b 1 knees; pilgrim c 4 long; pilgrim d 9 stays;");
        x.go(0);
        x.go(0);
        x.go(1);
        x.go(2);
        x.go(3);
        int[][] all = {{0, 2, 0, 16, 2, 0}, {0, 1, 1, 8, 1, 0}, {0, 4, 2, 8, 1, 0}, {1, 9, 3, 10, 0, 1}};
        for (int p = 0; p < 4; p++) {
            for (int what = 0; what < 6; what++) {
                Due.due("pilgrim(" + p + ", " + what + ")", x.pilgrim(p, what), all[p][what]);
            }
        }
        Doc.promise(7, "NONE for others.");
        for (int far : FAR) {
            Due.due("pilgrim(" + far + ", 0)", x.pilgrim(far, 0), -1);
            Due.due("pilgrim(0, " + far + ")", x.pilgrim(0, far), -1);
        }
        Due.due("a fifth", x.pilgrim(4, 0), -1);
        Due.due("what 6", x.pilgrim(0, 6), -1);
    }

    private static void wear() {
        Doc.promise(8, "WEAR of a PILGRIM on a STEP now (up, or down);");
        SaltStairs x = Due.of("steps 0 9; pilgrim a 2 plain; pilgrim b 3 stays; pilgrim c 4 knees; law plain = weight + 4 * up + day;");
        Due.due("up", x.wear(0, 2, true), 6);
        Due.due("down", x.wear(0, 2, false), 2);
        Due.due("where there is no step now", x.wear(0, 1, true), 6);
        Due.due("down by stays", x.wear(1, 2, false), 3);
        Due.due("each by knees", x.wear(2, 2, false), 4);
        x.night(1);
        Due.due("now", x.wear(0, 2, true), 7);
        Due.due("no thing done", x.count(9), 1);
        Doc.promise(8, "NONE: no such ones.");
        for (int far : FAR) {
            Due.due("wear(" + far + ", 1, true)", x.wear(far, 1, true), -1);
            Due.due("wear(0, " + far + ", true)", x.wear(0, far, true), -1);
        }
        Due.due("on the ground", x.wear(0, 0, false), -1);
        Due.due("in the monastery", x.wear(0, 3, true), -1);
        Due.due("a fourth", x.wear(3, 1, true), -1);
    }

    private static void go() {
        Doc.promise(9, "He goes: 0 .. 2;");
        SaltStairs x = Due.of("steps 9 4; pilgrim a 2 plain; pilgrim b 1 plain; pilgrim c 3 plain; pilgrim d 1 stays;");
        Due.due("he was there", x.go(0), 0);
        Due.due("he turned back", x.go(1), 1);
        Due.due("each going can be undone", x.count(9), 2);
        x = Due.of("steps 9 4; pilgrim a 3 plain; pilgrim d 1 stays; rain 0 9; brine 20 0;");
        Due.due("he is stuck", x.go(0), 2);
        Doc.promise(9, "3, and nothing happens: he is not on the ground;");
        Due.due("he is stuck", x.go(0), 3);
        counts(x, 2, 2, 20, 0, 2, 1, 1, 0, 0, 1, 0, 6);
        Due.due("led", x.pilgrim(0, 3), 7);
        Due.due("the stairs are mended", x.mend(2, 4), 16);
        Due.due("he lives there", x.go(1), 0);
        Due.due("he lives there", x.go(1), 3);
        Due.due("he came once", x.pilgrim(1, 4), 1);
        counts(x, 2, 2, 16, 0, 2, 0, 1, 0, 0, 3, 0, 8);
        Doc.promise(9, "NONE: no such one.");
        for (int far : FAR) {
            Due.due("go(" + far + ")", x.go(far), -1);
        }
        Due.due("a third", x.go(2), -1);
        Due.due("nothing happens", x.count(9), 3);
    }

    private static void would() {
        Doc.promise(10, "What would come of it (nothing happens): what 0: 0 .. 3, 1 where he would be, "
                + "2 what would be LED by this one going (LED grows by it);");
        SaltStairs x = Due.of("steps 9 5; pilgrim a 1 plain; pilgrim b 3 plain; pilgrim c 10 plain; pilgrim d 1 stays; pilgrim e 2 plain;");
        x.go(0);
        int[][] would = {{0, 0, 4}, {2, 3, 6}, {1, 0, 7}, {0, 3, 2}};
        for (int p = 0; p < 4; p++) {
            for (int what = 0; what < 3; what++) {
                Due.due("would(" + p + ", " + what + ")", x.would(p, what), would[p][what]);
            }
        }
        Due.due("nothing happens", x.count(9), 1);
        GoingTest.thick(x, 7, 3);
        Due.due("led by the first going", x.pilgrim(0, 3), 4);
        x.go(0);
        Due.due("led grows by it", x.pilgrim(0, 3), 8);
        Due.due("stuck on 1", x.would(4, 1), 1);
        x.go(4);
        Due.due("not on the ground", x.would(4, 0), 3);
        Due.due("where he is", x.would(4, 1), 1);
        Due.due("nothing by him", x.would(4, 2), 0);
        Doc.promise(10, "NONE: no such ones.");
        for (int far : FAR) {
            Due.due("would(" + far + ", 0)", x.would(far, 0), -1);
            Due.due("would(0, " + far + ")", x.would(0, far), -1);
            Due.due("would(4, " + far + ")", x.would(4, far), -1);
        }
        Due.due("a sixth", x.would(5, 0), -1);
        Due.due("what 3", x.would(0, 3), -1);
        Due.due("what 3 of one not on the ground", x.would(4, 3), -1);
    }

    private static void nights() {
        Doc.promise(11, "n NIGHTS (0 .. 100; 0 is no thing done) go by: which day it is;");
        SaltStairs x = Due.of("steps 50 9; rain 1 0; brine 1 1;");
        Due.due("0", x.night(0), 0);
        Due.due("no thing done", x.count(9), 0);
        Due.due("1", x.night(1), 1);
        Due.due("0", x.night(0), 1);
        Due.due("one thing done", x.count(9), 1);
        Due.due("100", x.night(100), 101);
        Due.due("one more thing done", x.count(9), 2);
        counts(x, 2, 0, 102, 101, 2, 2);
        Due.due("all of them undone at once", x.undo(), true);
        counts(x, 2, 0, 2, 1, 2, 0);
        GoingTest.thick(x, 49, 8);
        Doc.promise(11, "NONE, and nothing happens: no such n.");
        for (int n : new int[] {-1, 101, 102, Integer.MAX_VALUE, Integer.MIN_VALUE}) {
            Due.due("night(" + n + ")", x.night(n), -1);
        }
        counts(x, 2, 0, 2, 1, 2, 0, 0, 0, 0, 1, 0, 57);
    }

    private static void mend() {
        Doc.promise(12, "So much BRINE (1 and more) mends a STEP: how much there is left;");
        SaltStairs x = Due.of("steps 90 9; rain 9; brine 5 0;");
        x.night(2);
        Due.due("1", x.mend(1, 1), 4);
        Due.due("all there is", x.mend(1, 4), 0);
        GoingTest.thick(x, 77, 0);
        Due.due("three things done", x.count(9), 3);
        x = Due.of("steps 9 9; rain 9; brine 9 9;");
        x.night(1);
        Due.due("to what it was", x.mend(2, 9), 9);
        GoingTest.thick(x, 0, 9);
        Due.due("all there is, to what it was", x.mend(1, 9), 0);
        GoingTest.thick(x, 9, 9);
    }

    private static void mendNot() {
        Doc.promise(12, "-2, and nothing happens: not so much, it would be above what it was;");
        SaltStairs x = Due.of("steps 90 9 0; rain 9; brine 5 0;");
        x.night(1);
        Due.due("not so much", x.mend(1, 6), -2);
        x.mend(1, 2);
        Due.due("one above what is left", x.mend(1, 4), -2);
        x.undo();
        Due.due("above", x.mend(3, 1), -2);
        Due.due("both", x.mend(2, 10), -2);
        Due.due("very much", x.mend(1, Integer.MAX_VALUE), -2);
        counts(x, 3, 0, 5, 1, 1, 2, 0, 0, 0, 1, 0, 81);
        x = Due.of("steps 9; rain 1; brine 0 9;");
        Due.due("none there, none needed", x.mend(1, 1), -2);
        x.night(2);
        Due.due("one above", x.mend(1, 3), -2);
        Due.due("just so", x.mend(1, 2), 16);
        Doc.promise(12, "NONE: no such ones.");
        x.night(1);
        for (int far : FAR) {
            Due.due("mend(" + far + ", 1)", x.mend(far, 1), -1);
        }
        Due.due("the ground", x.mend(0, 1), -1);
        Due.due("the monastery", x.mend(2, 1), -1);
        Due.due("no such step, too much", x.mend(2, 9999), -1);
        Due.due("0", x.mend(1, 0), -1);
        Due.due("below 0", x.mend(1, -1), -1);
        Due.due("far below 0", x.mend(1, Integer.MIN_VALUE), -1);
        Due.due("nothing happens", x.count(9), 3);
        Due.due("nothing happens", x.count(2), 25);
    }

    private static void undo() {
        Doc.promise(13, "The last thing done (go, nights, mend) is undone: true;");
        SaltStairs x = Due.of("steps 9 3; rain 1; brine 5 1; pilgrim a 2 plain; pilgrim b 1 stays;");
        x.night(3);
        x.go(1);
        x.mend(1, 2);
        x.go(0);
        x.go(0);
        x.mend(1, 9);
        x.night(0);
        x.hold(2);
        x.tell(1, 1);
        counts(x, 2, 2, 6, 3, 1, 1, 0, 1, 0, 5, 1, 3);
        int[] things = {0, 1, 2, 3, 4};
        int[][] behind = {{6, 3, 5}, {6, 3, 7}, {8, 3, 5}, {8, 3, 6}, {5, 0, 12}};
        for (int i : things) {
            Due.due("undo", x.undo(), true);
            Due.due("left to undo", x.count(9), 4 - i);
            Due.due("brine", x.count(2), behind[i][0]);
            Due.due("day", x.count(3), behind[i][1]);
            Due.due("thick", x.count(11), behind[i][2]);
        }
        Due.due("place", x.pilgrim(1, 0), 0);
        Due.due("came", x.pilgrim(1, 4), 0);
        Due.due("led", x.pilgrim(0, 3), 0);
        Due.due("treads", x.step(1, 2), 0);
        Due.due("a slot is held still", x.count(10), 1);
        Due.due("told is told still", x.count(7), 1);
        came();
        Doc.promise(13, "false: there is none");
        Due.due("none", x.undo(), false);
        Due.due("none", x.undo(), false);
        counts(x, 2, 2, 5, 0, 1, 0, 0, 1, 0, 0, 1, 12);
    }

    private static void came() {
        SaltStairs x = Due.of("steps 9; pilgrim a 1 plain; pilgrim b 1 stays;");
        x.go(0);
        x.go(1);
        x.go(0);
        Due.due("a came twice", x.pilgrim(0, 4), 2);
        x.undo();
        Due.due("a came once", x.pilgrim(0, 4), 1);
        Due.due("b came", x.pilgrim(1, 4), 1);
        x.undo();
        Due.due("b did not come", x.pilgrim(1, 4), 0);
        Due.due("b is on the ground", x.pilgrim(1, 0), 0);
    }

    private static void undoForty() {
        Doc.promise(13, "(the last 40 can be).");
        SaltStairs x = Due.of("steps 9; pilgrim a 1 plain; law plain = 0;");
        for (int i = 1; i <= 40; i++) {
            x.night(1);
            Due.due("so many", x.count(9), i);
        }
        x.go(0);
        Due.due("no more than 40", x.count(9), 40);
        for (int i = 0; i < 40; i++) {
            Due.due("undo " + i, x.undo(), true);
        }
        Due.due("the 41st", x.undo(), false);
        Due.due("one night stays", x.count(3), 1);
        for (int i = 0; i < 45; i++) {
            x.night(2);
        }
        for (int i = 0; i < 20; i++) {
            x.undo();
        }
        Due.due("20 are left", x.count(9), 20);
        Due.due("25 by two", x.count(3), 51);
        for (int i = 0; i < 30; i++) {
            x.night(1);
        }
        Due.due("40 again", x.count(9), 40);
        for (int i = 0; i < 40; i++) {
            x.undo();
        }
        Due.due("none", x.undo(), false);
        Due.due("10 of those by two", x.count(3), 31);
    }

    private static void hold() {
        Doc.promise(28, "STAIRS, PILGRIMS, BRINE, the day are held in a SLOT (0 .. 2): true;");
        SaltStairs x = Due.of("steps 9 9 2; rain 1; brine 5 1; pilgrim a 2 knees; pilgrim b 1 stays; pilgrim c 3 plain;");
        Due.due("0", x.hold(0), true);
        x.go(1);
        x.go(2);
        x.night(2);
        x.mend(2, 1);
        Due.due("2", x.hold(2), true);
        Due.due("two", x.count(10), 2);
        Due.due("no thing done", x.count(9), 4);
        x.night(20);
        x.hold(1);
        Due.due("restore", x.restore(2), true);
        GoingTest.thick(x, 3, 4, 0);
        counts(x, 3, 3, 6, 2, 1, 1, 1);
        int[][] pilgrims = {{0, 2, 1, 0, 0, 0}, {4, 1, 3, 3, 1, 0}, {2, 3, 0, 7, 0, 1}};
        for (int p = 0; p < 3; p++) {
            for (int what = 0; what < 6; what++) {
                Due.due("pilgrim(" + p + ", " + what + ")", x.pilgrim(p, what), pilgrims[p][what]);
            }
        }
        Due.due("treads", x.step(2, 2), 2);
        Due.due("held over", x.hold(0), true);
        x.go(0);
        x.restore(0);
        Due.due("a did not go", x.pilgrim(0, 3), 0);
        Due.due("nor come", x.pilgrim(0, 4), 0);
        Due.due("three", x.count(10), 3);
        x.night(1);
        x.restore(0);
        Due.due("the later one", x.count(3), 2);
        Doc.promise(28, "false: no such one.");
        for (int far : FAR) {
            Due.due("hold(" + far + ")", x.hold(far), false);
        }
        Due.due("hold(3)", x.hold(3), false);
        SaltStairs none = Due.of("steps 9;");
        none.hold(3);
        none.hold(-1);
        Due.due("nothing is held", none.count(10), 0);
    }

    private static void restore() {
        Doc.promise(29, "They go on from what a SLOT holds (that stays there; nothing can be undone then): true;");
        SaltStairs x = Due.of("steps 9; rain 1; brine 5 1; pilgrim a 1 plain;");
        x.go(0);
        x.hold(1);
        for (int i = 0; i < 3; i++) {
            x.night(2);
            x.mend(1, 1);
            x.go(0);
            x.tell(1, i);
            Due.due("things done", x.count(9), i == 0 ? 4 : 3);
            Due.due("restore", x.restore(1), true);
            counts(x, 1, 1, 5, 0, 1, 0, 0, i + 1, 0, 0, 1, 7);
            Due.due("led", x.pilgrim(0, 3), 2);
            Due.due("treads", x.step(1, 2), 2);
            Due.due("nothing to undo", x.undo(), false);
        }
        x.night(1);
        Due.due("what comes then can be", x.undo(), true);
        Due.due("no more than that", x.undo(), false);
    }

    private static void restoreNot() {
        Doc.promise(29, "false, and nothing happens: no such one, nothing is held.");
        SaltStairs x = Due.of("steps 9; rain 1; brine 5 1; pilgrim a 1 plain;");
        x.night(2);
        x.hold(1);
        x.night(1);
        for (int far : FAR) {
            Due.due("restore(" + far + ")", x.restore(far), false);
        }
        Due.due("no such one", x.restore(3), false);
        Due.due("nothing is held", x.restore(0), false);
        Due.due("nothing is held", x.restore(2), false);
        counts(x, 1, 1, 8, 3, 1, 0, 0, 0, 0, 2, 1, 6);
        Due.due("undo", x.undo(), true);
        Due.due("undo", x.undo(), true);
    }

    private static void count() {
        Doc.promise(30, "0 STEPS, 1 PILGRIMS, 2 BRINE, 3 the day, 4 numbers of the RAIN, 5 STEPS that are not there, 6 how many are "
                + "STUCK, 7 TOLD ones, 8 bytes on the tape, 9 things that can be undone, 10 SLOTS that hold something, "
                + "11 all that STEPS are THICK.");
        SaltStairs x = Due.of("steps 9 1 0 9; rain 0 0 1; brine 5 1; pilgrim a 2 plain; pilgrim b 1 stays;");
        x.night(2);
        Due.due("stuck", x.go(0), 2);
        x.tell(1, 1);
        x.tell(1, 1);
        x.tell(4, 1);
        x.hold(0);
        x.hold(2);
        x.feed(0, 0, 0, 0, 0);
        x.back(7);
        counts(x, 4, 2, 7, 2, 3, 2, 1, 3, 13, 2, 2, 16);
        Due.due("most", Due.of(steps("99")).count(11), 2376);
        Doc.promise(30, "NONE for others.");
        for (int far : FAR) {
            Due.due("count(" + far + ")", x.count(far), -1);
        }
        Due.due("count(12)", x.count(12), -1);
    }
}
