/** Promises 1 to 5: the tape, what a text tells, and the byte of its FAULT. */
public final class TapeTest {
    private static final int SYNTAX = 1;
    private static final int ROOM = 2;
    private static final int TWICE = 3;
    private static final int WRONG = 5;

    private TapeTest() {
    }

    public static void main(String[] args) {
        newObject();
        tape();
        fine();
        syntax();
        tokensThatAreNone();
        room();
        later();
        faultLeavesAll();
        readBeginsAnew();
        lastRowCounts();
        longLawsAgainAndAgain();
        Due.end();
    }

    private static void faulty(String text, int fault, int place) {
        SaltStairs x = new SaltStairs();
        Due.due("read of " + text, Due.read(x, text), fault);
        Due.due("place in " + text, x.place(), place);
        Due.due("tape behind " + text, x.count(8), 0);
    }

    private static void fine(String text) {
        faulty(text, 0, SaltStairs.NONE);
    }

    private static void newObject() {
        SaltStairs x = new SaltStairs();
        for (int what = 0; what < 12; what++) {
            Due.due("new count(" + what + ")", x.count(what), 0);
        }
        Due.due("new place", x.place(), -1);
        Due.due("new step", x.step(1, 0), -1);
        Due.due("new pilgrim", x.pilgrim(0, 0), -1);
        Due.due("new undo", x.undo(), false);
        Due.due("new restore", x.restore(0), false);
        Due.due("NONE", SaltStairs.NONE, -1);
    }

    private static void tape() {
        SaltStairs x = new SaltStairs();
        Due.due("back of nothing", x.back(0), 0);
        Due.due("back of more", x.back(1), -1);
        Due.due("feed", x.feed(0x73746570, 0x733b2020, 0x20202020, 0x20202020, 0x20202020), 20);
        Due.due("back below 0", x.back(-1), -1);
        Due.due("back least", x.back(Integer.MIN_VALUE), -1);
        Due.due("back 0", x.back(0), 20);
        Due.due("back of 21", x.back(21), -1);
        Due.due("tape", x.count(8), 20);
        Due.due("back 14", x.back(14), 6);
        Due.due("read steps;", x.read(), 0);
        for (int i = 1; i <= 99; i++) {
            Due.due("feed " + i, x.feed(0, 0, 0, 0, 0), 20 * i);
        }
        x.back(1);
        Due.due("feed 1999", x.feed(0, 0, 0, 0, 0), 1999);
        Due.due("feed over 2000", x.feed(0, 0, 0, 0, 0), -1);
        x.back(18);
        Due.due("feed 2001", x.feed(0, 0, 0, 0, 0), -1);
        x.back(1);
        Due.due("feed 2000", x.feed(0, 0, 0, 0, 0), 2000);
        Due.due("feed full", x.feed(0, 0, 0, 0, 0), -1);
        Due.due("tape full", x.count(8), 2000);
        Due.due("read of zeros", x.read(), SYNTAX);
        Due.due("place of zeros", x.place(), 0);
    }

    private static void fine() {
        fine("");
        fine(" \t\r\n ");
        fine("steps;rain;brine 0 0;");
        fine("steps 0 99 0099;rain 9 0;brine 999 99;pilgrim a 1 plain;pilgrim b 30 stays;");
        fine("law long=9999;law long=0;");
        fine("law plain=if 1<2 then 3 else if 4<5 then 6 else if 7<8 then 9 else if 1<1 then 1 else 2;");
        fine("law plain=((((((1))))))*((((((2))))));");
        fine("pilgrim abcdefgh 1 plain;pilgrim stepsx 1 plain;pilgrim ste 1 knees;");
        fine("pilgrim wets 1 long; law stays = weight+thick-step*day/wet+up-gone;");
        fine("steps 1 1 1 1 1 1 1 1 1 1 1 1 1 1 1 1 1 1 1 1 1 1 1 1;rain 1 1 1 1 1 1 1 1 1 1 1 1 1 1;");
        fine("steps1 2;");
        fine("pilgrim z 1 plain;pilgrim az 1 plain;pilgrim za 1 plain;pilgrim xteps 1 plain;pilgrim kaw 1 plain;");
        fine("rain 1;".repeat(132) + "rain 1 1;" + " ".repeat(2000 - 132 * 7 - 9));
    }

    private static void syntax() {
        faulty(";", SYNTAX, 0);
        faulty("steps", SYNTAX, 5);
        faulty("steps 1 ", SYNTAX, 8);
        faulty("steps a;", SYNTAX, 6);
        faulty("step 1;", SYNTAX, 0);
        faulty("brine 1;", SYNTAX, 7);
        faulty("brine 1 2 3;", SYNTAX, 10);
        faulty("pilgrim up 1 plain;", SYNTAX, 8);
        faulty("pilgrim a plain;", SYNTAX, 10);
        faulty("pilgrim a 1;", SYNTAX, 11);
        faulty("pilgrim a 1 weight;", SYNTAX, 12);
        faulty("law plain 1;", SYNTAX, 10);
        faulty("law plain=;", SYNTAX, 10);
        faulty("law up=1;", SYNTAX, 4);
        faulty("law plain=-1;", SYNTAX, 10);
        faulty("law plain=1+;", SYNTAX, 12);
        faulty("law plain=1 2;", SYNTAX, 12);
        faulty("law plain=(1;", SYNTAX, 12);
        faulty("law plain=1);", SYNTAX, 11);
        faulty("law plain=();", SYNTAX, 11);
        faulty("law plain=a;", SYNTAX, 10);
        faulty("law plain=1<2;", SYNTAX, 11);
        faulty("law plain=if 1 then 2 else 3;", SYNTAX, 15);
        faulty("law plain=if 1<2 then 3;", SYNTAX, 23);
        faulty("law plain=if 1<2 else 3;", SYNTAX, 17);
        faulty("law plain=if 1<2 then if 1<2 then 3 else 4 else 5;", SYNTAX, 22);
        faulty("law plain=if (1<2) then 3 else 4;", SYNTAX, 15);
        faulty("law plain=(if 1<2 then 3 else 4);", SYNTAX, 11);
        faulty("law plain=1", SYNTAX, 11);
    }

    private static void tokensThatAreNone() {
        faulty("steps 12345;", SYNTAX, 6);
        faulty("steps 00001;", SYNTAX, 6);
        faulty("pilgrim abcdefghi 1 plain;", SYNTAX, 8);
        faulty("steps 1.;", SYNTAX, 7);
        faulty("Steps 1;", SYNTAX, 0);
        faulty("steps 1\u000b;", SYNTAX, 7);
        faulty("steps 1 \u00e9;", SYNTAX, 8);
        faulty("steps 1\u0000;", SYNTAX, 7);
        faulty("law plain=1>2;", SYNTAX, 11);
        faulty("stepssteps;", SYNTAX, 0);
    }

    private static void room() {
        String steps24 = "steps 1 1 1 1 1 1 1 1 1 1 1 1 1 1 1 1 1 1 1 1 1 1 1 1 ";
        faulty(steps24 + "1;", ROOM, 54);
        faulty(steps24 + "100;", ROOM, 54);
        faulty(steps24 + "12345;", SYNTAX, 54);
        faulty(steps24 + "+;", SYNTAX, 54);
        faulty("rain 1 1 1 1 1 1 1 1 1 1 1 1 1 1 1;", ROOM, 33);
        StringBuilder pilgrims = new StringBuilder();
        for (int i = 0; i < 8; i++) {
            pilgrims.append("pilgrim ").append((char) ('a' + i)).append(" 1 plain;");
        }
        fine(pilgrims.toString());
        faulty(pilgrims + " pilgrim", ROOM, 145);
        faulty(pilgrims + " pilgrim a", ROOM, 145);
        faulty(pilgrims + " +", SYNTAX, 145);
        String laws = "law long=1;".repeat(8);
        fine(laws);
        faulty(laws + "law", ROOM, 88);
        String ifs = "law plain=" + "if 1<2 then 3 else ".repeat(4);
        fine(ifs + "4;" + ifs + "4;");
        faulty(ifs + "if", ROOM, 86);
        faulty("law plain=(((((((", ROOM, 16);
        faulty("law plain=((((((1))))))+((((((((", ROOM, 30);
        faulty("law plain=if((((((1))))))<((((((1))))))then(((((((1", ROOM, 49);
        tokens();
    }

    private static void tokens() {
        String rains = "rain 1;".repeat(133);
        fine(rains);
        faulty(rains + "rain;", ROOM, 935);
        faulty(rains + "rain 1;", ROOM, 936);
        faulty(rains + "rain", SYNTAX, 935);
        String full = "rain 1;".repeat(132) + "rain 1 1;";
        fine(full);
        faulty(full + "rain", ROOM, 933);
        faulty(full + " 1", SYNTAX, 934);
        faulty(full + "#", SYNTAX, 933);
        faulty(full + "pilgrim", ROOM, 933);
        String pilgrim = "pilgrim a 0 plain;" + "rain 1;".repeat(131) + "rain 1";
        faulty(pilgrim, SYNTAX, pilgrim.length());
        faulty(pilgrim + ";rain;", ROOM, pilgrim.length());
    }

    private static void later() {
        faulty("steps 100;", WRONG, 6);
        faulty("steps 1 2 100 200;steps 1;", WRONG, 10);
        faulty("rain 10;", WRONG, 5);
        faulty("brine 1000 0;", WRONG, 6);
        faulty("brine 999 100;", WRONG, 10);
        faulty("pilgrim a 0 plain;", WRONG, 10);
        faulty("pilgrim a 31 plain;", WRONG, 10);
        faulty("pilgrim a 1 plain;pilgrim a 1 plain;", TWICE, 26);
        faulty("pilgrim a 1 plain;pilgrim a 0 plain;", TWICE, 26);
        faulty("pilgrim a 0 plain;pilgrim a 1 plain;", WRONG, 10);
        faulty("pilgrim a 1 plain;pilgrim b 1 plain;pilgrim b 1 plain;pilgrim a 0 plain;", TWICE, 44);
        faulty("steps 100;+", SYNTAX, 10);
        faulty("steps 100;law plain=(((((((1", ROOM, 26);
        faulty("pilgrim a 1 plain;pilgrim a 1 plain", SYNTAX, 35);
        fine("pilgrim a 1 plain;pilgrim aa 1 plain;pilgrim ab 1 plain;pilgrim ba 1 plain;");
    }

    private static void faultLeavesAll() {
        SaltStairs x = Due.of("steps 5 6;rain 1 2;brine 3 4;pilgrim a 1 plain;");
        x.go(0);
        x.hold(1);
        x.tell(1, 2);
        Due.due("faulty read", Due.read(x, "steps 9;brine 0 0;pilgrim b 31 stays;"), WRONG);
        int[] counts = {2, 1, 3, 0, 2, 0, 0, 1, 0, 1, 1, 7};
        for (int what = 0; what < counts.length; what++) {
            Due.due("count(" + what + ") behind a fault", x.count(what), counts[what]);
        }
        Due.due("place", x.place(), 28);
        x.feed(0, 0, 0, 0, 0);
        Due.due("place goes on", x.place(), 28);
        x.back(20);
        Due.due("read of nothing", x.read(), 0);
        Due.due("place without", x.place(), -1);
    }

    private static void readBeginsAnew() {
        SaltStairs x = Due.of("steps 5 6;rain 1 2;brine 3 4;pilgrim a 1 plain;law plain=2;");
        x.go(0);
        x.night(2);
        x.hold(1);
        x.tell(1, 2);
        Due.due("read", Due.read(x, "steps 7;steps 8 0;rain 1;rain 3 4 5;brine 1 1;brine 2 7;pilgrim b 3 stays;"), 0);
        int[] counts = {2, 1, 2, 0, 3, 1, 0, 0, 0, 0, 0, 8};
        for (int what = 0; what < counts.length; what++) {
            Due.due("count(" + what + ") anew", x.count(what), counts[what]);
        }
        Due.due("led anew", x.pilgrim(0, 3), 0);
        Due.due("came anew", x.pilgrim(0, 4), 0);
        Due.due("no law more", x.wear(0, 1, true), 3);
        Due.due("restore", x.restore(1), false);
        Due.due("undo", x.undo(), false);
        Due.due("night", x.night(1), 1);
        Due.due("thick", x.step(1, 0), 5);
        Due.due("brine", x.count(2), 9);
    }

    private static void lastRowCounts() {
        SaltStairs x = Due.of("steps 5 6 7;steps 8;rain 1 2 3;rain 4;brine 1 2;brine 3 4;");
        int[] counts = {1, 0, 3, 0, 1};
        for (int what = 0; what < counts.length; what++) {
            Due.due("count(" + what + ") of the last", x.count(what), counts[what]);
        }
        x = Due.of("steps 5 6 7;steps;rain 1 2 3;rain;");
        Due.due("an empty row of steps", x.count(0), 0);
        Due.due("an empty row of rain", x.count(4), 0);
    }

    private static void longLawsAgainAndAgain() {
        SaltStairs x = new SaltStairs();
        for (int i = 1; i <= 9; i++) {
            String law = "law plain = " + i + " + 0".repeat(150) + ";";
            Due.due("read of a long law", Due.read(x, "steps 9; pilgrim a 5 plain;" + law), 0);
            Due.due("the law", x.wear(0, 1, true), i);
        }
    }
}
