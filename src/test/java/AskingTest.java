/** Promises 14 to 22: orders, need, bears, odds, season, taken off, bell, fair. */
public final class AskingTest {
    private static final String EIGHT = "pilgrim a 1 plain; pilgrim b 1 knees; pilgrim c 1 long; pilgrim d 1 stays;"
            + "pilgrim e 1 plain; pilgrim f 1 plain; pilgrim g 1 plain; pilgrim h 1 plain;";

    private AskingTest() {
    }

    public static void main(String[] args) {
        orders();
        ordersOfMany();
        eachChangeIsSeen();
        need();
        needOfLongOnes();
        needByLaws();
        bears();
        odds();
        oddsOnTheirDay();
        season();
        rescue();
        rescueOfLongOnes();
        bell();
        fair();
        Due.end();
    }

    static void best(String text, int came, int stuck, int... order) {
        SaltStairs x = Due.of(text);
        int set = (1 << order.length) - 1;
        Due.due("come by order of " + text, x.order(set, 0), came);
        Due.due("stuck by order of " + text, x.order(set, 1), stuck);
        for (int i = 0; i < order.length; i++) {
            Due.due("order at " + i + " of " + text, x.orderAt(set, i), order[i]);
        }
        Due.due("not so many", x.orderAt(set, order.length), -1);
        Due.due("below", x.orderAt(set, -1), -1);
        Due.due("nothing happens", x.count(9), 0);
    }

    private static void orders() {
        best("steps 9; pilgrim a 1 plain; pilgrim b 1 plain;", 2, 0, 0, 1);
        best("steps 5; pilgrim a 2 plain; pilgrim b 3 stays;", 1, 0, 0, 1);
        best("steps 6; pilgrim a 3 stays; pilgrim b 2 plain; law plain = if thick < 4 then 4 else 1;", 2, 0, 1, 0);
        best("steps 4; pilgrim a 3 plain; pilgrim b 5 plain;", 0, 0, 1, 0);
        best("steps 4; pilgrim a 5 plain; pilgrim b 3 plain; pilgrim c 1 plain;", 1, 0, 2, 0, 1);
        best("", 0, 0);
        SaltStairs x = Due.of("steps 5 5; rain 1; pilgrim a 3 stays; pilgrim b 2 plain;");
        Due.due("from the stairs as they are", x.order(3, 0), 1);
        Due.due("b alone", x.order(2, 0), 1);
        x.night(1);
        Due.due("b first", x.order(2, 0), 1);
        x.night(1);
        Due.due("none", x.order(2, 0), 0);
        Due.due("stuck", x.order(2, 1), 1);
        x.undo();
        Due.due("undone", x.order(2, 0), 1);
    }

    private static void eachChangeIsSeen() {
        SaltStairs x = Due.of("steps 9 90; rain 4; brine 20 5; pilgrim a 2 plain;");
        seen(x, 1, -3);
        x.night(2);
        seen(x, 0, 0);
        x.hold(0);
        x.mend(1, 8);
        seen(x, 1, -3);
        x.go(0);
        seen(x, 1, 0);
        x.undo();
        seen(x, 1, -3);
        x.restore(0);
        seen(x, 0, 0);
        Due.read(x, "steps 9; pilgrim a 2 plain;");
        seen(x, 1, -3);
    }

    private static void seen(SaltStairs x, int come, int day) {
        Due.due("come", x.order(1, 0), come);
        Due.due("at", x.orderAt(1, 0), 0);
        Due.due("day", x.season(1, 0), day);
    }

    private static void ordersOfMany() {
        SaltStairs x = Due.of("steps 90;" + EIGHT);
        Due.due("eight", x.order(255, 0), -2);
        Due.due("eight", x.orderAt(255, 0), -2);
        Due.due("eight, wrong place", x.orderAt(255, 8), -1);
        Due.due("eight, below", x.orderAt(255, -1), -1);
        Due.due("seven", x.order(254, 0), 7);
        Due.due("the last of seven", x.orderAt(254, 6), 7);
        Due.due("what", x.order(3, 2), -1);
        Due.due("what below", x.order(3, -1), -1);
        Due.due("ninth", x.order(256, 0), -1);
        Due.due("ninth", x.orderAt(256, 0), -1);
        Due.due("all bits", x.order(-1, 0), -1);
        Due.due("high bit", x.orderAt(Integer.MIN_VALUE, 0), -1);
        x.go(3);
        Due.due("one is away", x.order(8, 0), -1);
        Due.due("one is away", x.orderAt(255, 0), -1);
        Due.due("one is away", x.need(8, 1), -1);
        Due.due("one is away", x.bears(255), -1);
        Due.due("one is away", x.odds(8, 1, 1, 1, 1), -1);
        Due.due("the others", x.order(247, 0), 7);
    }

    private static void need() {
        SaltStairs x = Due.of("steps 9 8 7; rain 6; pilgrim a 1 plain; pilgrim b 2 stays; pilgrim c 1 knees;");
        Due.due("it bears", x.need(1, -1), 0);
        x.night(1);
        Due.due("3 is enough", x.need(1, 1), 0);
        Due.due("2 is enough", x.need(1, 2), 0);
        Due.due("1 is not", x.need(1, 3), 1);
        Due.due("only up", x.need(2, 3), 1);
        Due.due("by knees", x.need(4, 2), 2);
        Due.due("a and c", x.need(5, 2), 4);
        Due.due("all", x.need(7, 1), 5);
        Due.due("above what it was", x.need(7, 3), -2);
        Due.due("the sum", x.need(5, -1), 3 + 4 + 5);
        Due.due("the sum with one that can't be", x.need(7, -1), -2);
        Due.due("nobody", x.need(0, -1), 0);
        Due.due("no step", x.need(1, 0), -1);
        Due.due("no step", x.need(1, 4), -1);
        Due.due("no step", x.need(1, -2), -1);
        Due.due("no set", x.need(8, -1), -1);
        Due.due("nothing happens", x.count(9), 1);
    }

    private static void needOfLongOnes() {
        SaltStairs x = Due.of("steps 9 9 9 9; rain 7; pilgrim l 4 long;");
        x.night(1);
        for (int step = 1; step <= 4; step++) {
            Due.due("each once", x.need(1, step), 2);
        }
        x = Due.of("steps 9 9 9; rain 7; pilgrim l 4 long;");
        x.night(1);
        Due.due("not this", x.need(1, 1), 0);
        Due.due("twice", x.need(1, 2), 6);
        Due.due("nor this", x.need(1, 3), 0);
        x = Due.of("steps 0 9 0; pilgrim l 4 long;");
        Due.due("as if all were there", x.need(1, -1), 0);
    }

    private static void needByLaws() {
        SaltStairs x = Due.of("steps 9 0; rain 9; pilgrim s 1 stays; law stays = gone * 3;");
        x.night(1);
        Due.due("gone as it is", x.need(1, 1), 6);
        Due.due("never there", x.need(1, 2), -2);
        x = Due.of("steps 9; rain 9; pilgrim s 1 stays; pilgrim a 1 plain; law stays = 0; law plain = thick;");
        x.night(1);
        Due.due("to be there", x.need(1, 1), 1);
        Due.due("all is worn away", x.need(2, 1), -2);
        x = Due.of("steps 9; rain 4; pilgrim a 1 plain; law plain = if thick < 5 then 1 else 9;");
        Due.due("thick ones bear less", x.need(1, 1), -2);
        x.night(2);
        Due.due("thin ones bear more", x.need(1, 1), 1);
        x = Due.of("steps 9; rain 8; pilgrim a 1 plain; law plain = 2 + up + day;");
        x.night(1);
        Due.due("this day", x.need(1, 1), 6);
    }

    private static void bears() {
        SaltStairs x = Due.of("steps 5; pilgrim a 2 plain; pilgrim b 1 stays; pilgrim c 1 stays;");
        Due.due("nobody", x.bears(0), 1);
        Due.due("a", x.bears(1), 1);
        Due.due("a and b", x.bears(3), 1);
        Due.due("all", x.bears(7), 0);
        Due.due("b and c", x.bears(6), 1);
        Due.due("no set", x.bears(8), -1);
        Due.due("no set", x.bears(-1), -1);
        Due.due("nothing happens", x.step(1, 0), 5);
    }

    private static void odds() {
        SaltStairs x = Due.of("steps 4; rain 9; pilgrim a 1 plain;");
        Due.due("two may be wet", x.odds(1, 1, 3, 1, 3), 26);
        Due.due("one may be wet", x.odds(1, 2, 3, 1, 3), 20);
        Due.due("none may be wet", x.odds(1, 3, 3, 1, 3), 8);
        Due.due("all are wet", x.odds(1, 1, 3, 3, 3), 0);
        Due.due("none is wet", x.odds(1, 9, 3, 0, 9), 729);
        Due.due("nobody", x.odds(0, 9, 12, 9, 9), 282429536481L);
        Due.due("no rain in it", x.odds(1, 0, 12, 4, 9), 282429536481L);
        Due.due("no nights", x.odds(1, 9, 0, 1, 1), 1);
        Due.due("nothing happens", x.count(3), 0);
        int[][] wrong = {{2, 1, 1, 1, 1}, {-1, 1, 1, 1, 1}, {1, -1, 1, 1, 1}, {1, 10, 1, 1, 1}, {1, 1, -1, 1, 1},
            {1, 1, 13, 1, 1}, {1, 1, 1, -1, 1}, {1, 1, 1, 2, 1}, {1, 1, 1, 0, 0}, {1, 1, 1, 1, 10}, {1, 1, 1, 1, -1}};
        for (int[] w : wrong) {
            Due.due("no such ones", x.odds(w[0], w[1], w[2], w[3], w[4]), -1);
        }
    }

    private static void oddsOnTheirDay() {
        SaltStairs x = Due.of("steps 4; pilgrim a 1 plain; law plain = day;");
        Due.due("day 2", x.odds(1, 0, 2, 1, 2), 4);
        Due.due("day 3", x.odds(1, 0, 3, 1, 2), 0);
        x.night(1);
        Due.due("day 2", x.odds(1, 0, 1, 1, 2), 2);
        Due.due("day 3", x.odds(1, 0, 2, 1, 2), 0);
        x = Due.of("steps 4; rain 0 3; pilgrim a 1 plain; law plain = wet;");
        Due.due("wet then", x.odds(1, 0, 1, 1, 2), 0);
        Due.due("dry then", x.odds(1, 0, 2, 1, 2), 4);
    }

    static void season(SaltStairs x, int n, int day, int step, int by, int stuck) {
        Due.due("day of " + n, x.season(n, 0), day);
        Due.due("step of " + n, x.season(n, 1), step);
        Due.due("by whom of " + n, x.season(n, 2), by);
        Due.due("stuck of " + n, x.season(n, 3), stuck);
    }

    private static void season() {
        SaltStairs x = Due.of("steps 5 9; rain 1; pilgrim a 1 plain;");
        season(x, 1, -3, -3, -3, 0);
        season(x, 3, 1, 1, 0, 0);
        x = Due.of("steps 3 2 2; rain 0 1;");
        season(x, 3, -3, -3, -3, 0);
        season(x, 4, 3, 2, -2, 0);
        x.night(3);
        season(x, 1, 0, 2, -2, 0);
        Due.due("nothing happens", x.count(3), 3);
        x = Due.of("steps 9 3; pilgrim a 1 stays; pilgrim b 2 plain; pilgrim c 1 plain;");
        season(x, 1, 0, 2, 1, 1);
        x.go(1);
        season(x, 1, -3, -3, -3, 1);
        x = Due.of("steps 9 1; pilgrim a 2 plain; pilgrim b 9 plain;");
        season(x, 1, 0, 2, 0, 1);
        Due.due("as it was", x.step(2, 0), 1);
        int[][] wrong = {{0, 0}, {101, 0}, {-1, 0}, {1, 4}, {1, -1}};
        for (int[] w : wrong) {
            Due.due("no such ones", x.season(w[0], w[1]), -1);
        }
        Due.due("a hundred", x.season(100, 3), 1);
    }

    private static void rescue() {
        SaltStairs x = Due.of("steps 9 9 9 1; rain 8 1; pilgrim a 2 plain; pilgrim b 1 plain; law plain = weight + day - up * day;");
        Due.due("on the ground", x.rescue(0), -1);
        Due.due("stuck", x.go(0), 2);
        Due.due("it costs nothing", x.rescue(0), 0);
        x.night(1);
        Due.due("3 and 3", x.rescue(0), 6);
        x.night(1);
        Due.due("4 and 4", x.rescue(0), 8);
        x.night(1);
        x.night(5);
        Due.due("above what it was", x.rescue(0), -2);
        Due.due("not stuck", x.rescue(1), -1);
        Due.due("no such one", x.rescue(2), -1);
        Due.due("no such one", x.rescue(-1), -1);
        x = Due.of("steps 3; pilgrim a 2 plain; pilgrim b 2 stays;");
        Due.due("in the monastery", x.go(0), 2);
        Due.due("mended", x.rescue(0), 2);
        Due.due("nothing happens", x.step(1, 0), 0);
        x = Due.of("steps 9 9 0; pilgrim s 3 stays; law stays = if up < 1 then 5 + gone else 4 + gone;");
        Due.due("he turned and broke it", x.go(0), 2);
        Due.due("place", x.pilgrim(0, 0), 2);
        Due.due("5 and 2 gone", x.rescue(0), 7);
        x = Due.of("steps 9 1; rain 9; pilgrim k 2 knees;");
        Due.due("stuck", x.go(0), 2);
        Due.due("the ground is near", x.rescue(0), 0);
        x = Due.of("steps 9 9 1; rain 9; pilgrim k 2 knees;");
        x.go(0);
        x.night(1);
        Due.due("twice by knees", x.rescue(0), 4);
        x = Due.of("steps 2; pilgrim s 2 stays;");
        x.go(0);
        Due.due("who lives there is not stuck", x.rescue(0), -1);
    }

    private static void rescueOfLongOnes() {
        SaltStairs x = Due.of("steps 9 9 9 1; rain 9; pilgrim l 3 long;");
        Due.due("4 breaks under him", x.go(0), 2);
        Due.due("he is on 2", x.pilgrim(0, 0), 2);
        x.night(1);
        Due.due("the ground is the next but one", x.rescue(0), 0);
        x = Due.of("steps 2 9 3 9; brine 9 0; pilgrim l 3 long;");
        Due.due("1 breaks under him", x.go(0), 2);
        Due.due("he is on 3", x.pilgrim(0, 0), 3);
        Due.due("over 2, as 1 can't be so thick", x.rescue(0), 0);
        x.mend(1, 1);
        Due.due("1 is there, so he must tread it", x.rescue(0), -2);
        String breaksOne = "steps 9 9 9 9; rain 9; brine 9 0; pilgrim l 1 long; law long = if day + step + up < 2 then 99 else ";
        x = Due.of(breaksOne + "9 - step * 3;");
        Due.due("1 breaks under him", x.go(0), 2);
        x.night(1);
        Due.due("3 over 2, 6 over 1", x.rescue(0), 3);
        x.mend(1, 1);
        Due.due("5 over 1", x.rescue(0), 5);
        x = Due.of(breaksOne + "step * 2;");
        Due.due("1 breaks under him", x.go(0), 2);
        x.night(1);
        Due.due("4 over 2, 2 over 1", x.rescue(0), 2);
        x = Due.of(breaksOne + "0;");
        x.go(0);
        x.night(1);
        Due.due("to be there", x.rescue(0), 1);
    }

    private static void bell() {
        SaltStairs x = Due.of("steps 20; pilgrim a 1 plain; pilgrim b 1 stays; pilgrim c 1 knees;");
        Due.due("one hand", x.bell(19), 1);
        Due.due("none", x.bell(20), -2);
        Due.due("no weight", x.bell(0), -1);
        Due.due("no weight", x.bell(-5), -1);
        Due.due("no weight", x.bell(1000), -1);
        Due.due("most", x.bell(999), -2);
        Due.due("nothing happens", x.step(1, 0), 20);
        x = Due.of("steps 20; pilgrim a 1 knees; pilgrim b 1 stays; pilgrim c 1 long;"
                + "law plain = if weight < 12 then 1 else 50; law knees = 99; law stays = 99; law long = 99;");
        Due.due("one", x.bell(10), 1);
        Due.due("two", x.bell(20), 2);
        Due.due("rounded up", x.bell(21), 3);
        Due.due("none", x.bell(31), -2);
        x.go(1);
        x = Due.of("steps 99; pilgrim a 1 plain;");
        Due.due("not held", x.bell(98), 1);
        Due.due("not held", x.bell(99), -2);
        x = Due.of("steps 99; pilgrim a 1 plain; law plain = weight * up;");
        Due.due("held", x.bell(999), 1);
        x = Due.of("steps 9 0; pilgrim a 1 long;");
        Due.due("by vow plain", x.bell(1), -2);
        x = Due.of("steps 20; pilgrim a 9 stays; pilgrim b 1 plain; pilgrim c 2 plain;");
        Due.due("a goes", x.go(0), 0);
        Due.due("b carries", x.bell(10), 1);
        Due.due("nor b nor c", x.bell(11), -2);
    }

    private static void fair() {
        SaltStairs x = Due.of("steps 40;");
        Due.due("no pilgrims", x.fair(), -2);
        x = Due.of("steps 40; pilgrim a 1 plain; pilgrim b 2 plain; pilgrim c 3 plain;");
        Due.due("all alike", x.fair(), 0);
        x.go(1);
        Due.due("one went", x.fair(), 4);
        x.go(2);
        Due.due("two went", x.fair(), 6);
        x.go(0);
        Due.due("all went", x.fair(), 4);
    }
}
