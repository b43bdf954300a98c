/** Promises 23 to 27: what is TOLD, and who the WALKERS were. */
public final class ToldTest {
    private ToldTest() {
    }

    public static void main(String[] args) {
        telling();
        fitting();
        fromTheText();
        laterOnesStandOnEarlier();
        wrongInputs();
        Due.end();
    }

    private static void telling() {
        SaltStairs x = Due.of("steps 9 9 9;");
        for (int i = 0; i < 30; i++) {
            Due.due("tell", x.tell(1 + i % 3, 9), i);
        }
        Due.due("thirty are there", x.tell(1, 9), -1);
        Due.due("told", x.count(7), 30);
        Due.due("it fits", x.fits(30), 1);
        Due.due("forget", x.forget(), 30);
        Due.due("told", x.count(7), 0);
        Due.due("forget nothing", x.forget(), 0);
        Due.due("tell anew", x.tell(1, 0), 0);
        Due.due("nothing done", x.count(9), 0);
        Due.due("none fits", x.fits(1), 0);
        Due.due("without it", x.fits(0), 1);
    }

    private static void fitting() {
        SaltStairs x = Due.of("steps 20; pilgrim a 1 plain; pilgrim b 2 stays; pilgrim c 3 plain;");
        Due.due("all sets", x.fits(0), 8);
        Due.due("who", x.who(0, false), 7);
        Due.due("surely none", x.who(0, true), 0);
        x.tell(1, 18);
        x.tell(1, 10);
        Due.due("a or b", x.fits(1), 2);
        Due.due("a", x.walkers(1, 0), 1);
        Due.due("b", x.walkers(1, 1), 2);
        Due.due("no more", x.walkers(1, 2), -1);
        Due.due("maybe", x.who(1, false), 3);
        Due.due("surely", x.who(1, true), 0);
        Due.due("not both", x.fits(2), 0);
        Due.due("none", x.walkers(2, 0), -1);
        Due.due("maybe", x.who(2, false), 0);
        Due.due("surely", x.who(2, true), 0);
        x.forget();
        x.tell(1, 12);
        Due.due("a, c or b, c", x.fits(1), 2);
        Due.due("a, c", x.walkers(1, 0), 5);
        Due.due("b, c", x.walkers(1, 1), 6);
        Due.due("surely c", x.who(1, true), 4);
        Due.due("maybe all", x.who(1, false), 7);
        x.forget();
        x.tell(1, 20);
        Due.due("nobody", x.fits(1), 1);
        Due.due("nobody", x.walkers(1, 0), 0);
        Due.due("nobody", x.who(1, false), 0);
    }

    private static void fromTheText() {
        SaltStairs x = Due.of("steps 9 8; rain 4; brine 9 9; pilgrim a 1 plain; pilgrim b 1 plain; law plain = 1 + day * 9 + wet / 4;");
        x.go(0);
        x.night(1);
        x.go(1);
        x.tell(1, 5);
        x.tell(2, 4);
        Due.due("on day 0, without the night", x.fits(2), 2);
        Due.due("a", x.walkers(2, 0), 1);
        Due.due("b", x.walkers(2, 1), 2);
        Due.due("told ones stand", x.undo(), true);
        Due.due("told", x.count(7), 2);
        Due.read(x, "steps 9; pilgrim a 4 plain;");
        Due.due("nothing told", x.fits(1), -1);
        x.tell(1, 1);
        Due.due("the new text", x.who(1, true), 1);
    }

    private static void laterOnesStandOnEarlier() {
        SaltStairs x = Due.of("steps 4 9; pilgrim a 3 plain; pilgrim b 1 plain;");
        x.tell(1, 0);
        x.tell(2, 3);
        Due.due("a breaks step 1 on the way down", x.fits(2), 2);
        Due.due("a", x.walkers(2, 0), 1);
        Due.due("a, and b who does not get up", x.walkers(2, 1), 3);
        x.forget();
        x.tell(1, 2);
        Due.due("b alone", x.walkers(1, 0), 2);
        Due.due("b alone", x.fits(1), 1);
        x = Due.of("steps 5 9; pilgrim b 1 plain; pilgrim a 3 plain;");
        x.tell(1, 0);
        x.tell(2, 1);
        Due.due("b, then a", x.walkers(2, 0), 3);
        x.forget();
        x.tell(2, 3);
        Due.due("a alone", x.walkers(1, 0), 2);
    }

    private static void wrongInputs() {
        SaltStairs x = Due.of("steps 9 9; pilgrim a 1 plain;");
        Due.due("no step", x.tell(0, 1), -1);
        Due.due("no step", x.tell(3, 1), -1);
        Due.due("no step", x.tell(-1, 1), -1);
        Due.due("no thickness", x.tell(1, -1), -1);
        Due.due("no thickness", x.tell(1, 100), -1);
        Due.due("nothing told", x.count(7), 0);
        Due.due("the most", x.tell(1, 99), 0);
        Due.due("the least", x.tell(2, 0), 1);
        for (int k : new int[] {-1, 3, Integer.MAX_VALUE, Integer.MIN_VALUE}) {
            Due.due("fits no k", x.fits(k), -1);
            Due.due("walkers no k", x.walkers(k, 0), -1);
            Due.due("who no k", x.who(k, true), -1);
            Due.due("who no k", x.who(k, false), -1);
        }
        Due.due("below", x.walkers(0, -1), -1);
        Due.due("above", x.walkers(0, 2), -1);
        Due.due("much", x.walkers(0, Integer.MAX_VALUE), -1);
    }
}
