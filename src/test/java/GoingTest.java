/** Promises 6 to 13 and 28 to 30: going, wear, nights, mending, what is undone, held and counted. */
public final class GoingTest {
    private GoingTest() {
    }

    public static void main(String[] args) {
        wearByWeight();
        laws();
        lawsLookOnlyWhereTheyMust();
        goingUpAndDown();
        turningBack();
        stuck();
        stays();
        longOnes();
        knees();
        goneAsHeGoes();
        would();
        nights();
        mending();
        undoing();
        slots();
        wrongInputs();
        Due.end();
    }

    static void thick(SaltStairs x, int... steps) {
        for (int i = 0; i < steps.length; i++) {
            Due.due("step(" + (i + 1) + ", 0)", x.step(i + 1, 0), steps[i]);
        }
    }

    static void goes(String text, int outcome, int spot, int led, int... steps) {
        SaltStairs x = Due.of(text);
        Due.due("would be " + text, x.would(0, 0), outcome);
        Due.due("where " + text, x.would(0, 1), spot);
        Due.due("would be led " + text, x.would(0, 2), led);
        Due.due("go " + text, x.go(0), outcome);
        Due.due("place " + text, x.pilgrim(0, 0), spot);
        Due.due("led " + text, x.pilgrim(0, 3), led);
        Due.due("came " + text, x.pilgrim(0, 4), outcome == 0 ? 1 : 0);
        Due.due("stuck " + text, x.pilgrim(0, 5), outcome == 2 ? 1 : 0);
        Due.due("stuck ones " + text, x.count(6), outcome == 2 ? 1 : 0);
        Due.due("done " + text, x.count(9), 1);
        thick(x, steps);
    }

    static void wearIs(String law, int wear) {
        SaltStairs x = Due.of("steps 20 30 0; rain 0 6; pilgrim a 7 plain; law plain = " + law + ";");
        Due.due(law, x.wear(0, 2, true), wear);
    }

    private static void wearByWeight() {
        SaltStairs x = Due.of("steps 10 0 10; pilgrim p 2 plain; pilgrim k 30 knees; law long = 7;");
        Due.due("wear", x.wear(0, 1, true), 2);
        Due.due("wear where there is no step", x.wear(0, 2, false), 2);
        Due.due("wear by knees, once", x.wear(1, 3, false), 30);
    }

    private static void laws() {
        wearIs("weight", 7);
        wearIs("thick", 30);
        wearIs("step", 2);
        wearIs("up", 1);
        wearIs("gone", 1);
        wearIs("day + wet", 0);
        wearIs("2 + 3 * 4 - 6 / 2", 11);
        wearIs("20 - 5 - 3", 12);
        wearIs("24 / 4 / 3", 2);
        wearIs("24 / 4 * 3", 18);
        wearIs("24 / (4 * 3)", 2);
        wearIs("20 - (5 - 3) * 2 + 1", 17);
        wearIs("5 + (0 - 7) / 2", 2);
        wearIs("0 - 5", 0);
        wearIs("99", 99);
        wearIs("100", 99);
        wearIs("9999", 99);
        wearIs("if 9999 * 9999 * 9999 < 0 then 1 else 2", 1);
        wearIs("if weight < 7 then 1 else if 6 < weight then 2 else 3", 2);
        wearIs("if weight < 7 then 1 else if 8 < weight then 2 else 3", 3);
        wearIs("if 1 < 2 then 1 else if 1 < 2 then 2 else 3", 1);
        wearIs("if 2 * 3 < 1 + 6 then 8 else 9", 8);
        wearIs("1; law plain = 2; law knees = 3", 2);
        SaltStairs x = Due.of("steps 9; rain 4 6; pilgrim a 7 plain; law plain = day * 10 + wet;");
        Due.due("dry day", x.wear(0, 1, true), 4);
        x.night(1);
        Due.due("wet day", x.wear(0, 1, true), 16);
        x.night(1);
        Due.due("again and again", x.wear(0, 1, false), 24);
        x = Due.of("steps 9; pilgrim a 7 plain; law plain = 3 + up;");
        Due.due("up", x.wear(0, 1, true), 4);
        Due.due("down", x.wear(0, 1, false), 3);
    }

    private static void lawsLookOnlyWhereTheyMust() {
        wearIs("1 / 0", 0);
        wearIs("5 + 0 * (1 / (step - 2))", 0);
        wearIs("5 + 0 * (1 / (step - 1))", 5);
        wearIs("if 1 < 2 then 7 else 1 / 0", 7);
        wearIs("if 2 < 1 then 1 / 0 else 8", 8);
        wearIs("if 1 < 1 / 0 then 7 else 8", 0);
        wearIs("if 1 / 0 < 1 then 7 else 8", 0);
        wearIs("if 1 < 2 then 7 else if 1 / 0 < 1 then 1 else 2", 7);
    }

    private static void goingUpAndDown() {
        goes("steps 10 9 8; pilgrim a 2 plain;", 0, 0, 12, 6, 5, 4);
        goes("steps 4 4; pilgrim a 2 plain;", 0, 0, 8, 0, 0);
        goes("pilgrim a 2 plain;", 0, 0, 0);
        goes("steps 1; pilgrim a 2 plain; law plain = 0;", 0, 0, 0, 1);
        SaltStairs x = Due.of("steps 10 9; pilgrim a 2 plain; pilgrim b 1 plain;");
        x.go(0);
        x.go(1);
        x.go(1);
        Due.due("treads", x.step(2, 2), 6);
        Due.due("by the text", x.step(2, 1), 9);
        Due.due("came twice", x.pilgrim(1, 4), 2);
        Due.due("led twice", x.pilgrim(1, 3), 8);
        Due.due("led once", x.pilgrim(0, 3), 8);
        Due.due("fair", x.fair(), 0);
        thick(x, 2, 1);
    }

    private static void turningBack() {
        goes("steps 0 9; pilgrim a 2 plain;", 1, 0, 0, 0, 9);
        goes("steps 1 9; pilgrim a 2 plain;", 1, 0, 1, 0, 9);
        goes("steps 9 0; pilgrim a 2 plain;", 1, 0, 2, 7, 0);
        goes("steps 9 9 0; pilgrim a 2 plain;", 1, 0, 6, 5, 7, 0);
        goes("steps 9 0; pilgrim a 2 plain; law plain = if up < 1 then 5 else 1;", 1, 0, 1, 8, 0);
        goes("steps 9 9 0; pilgrim a 2 plain; law plain = if up < 1 then 5 else 1;", 1, 0, 7, 3, 8, 0);
    }

    private static void stuck() {
        goes("steps 9 1; pilgrim a 2 plain;", 2, 1, 3, 7, 0);
        goes("steps 2 9 0; pilgrim a 2 plain;", 2, 2, 4, 0, 7, 0);
        goes("steps 2; pilgrim a 2 plain;", 2, 2, 2, 0);
        goes("steps 3; pilgrim a 2 plain;", 2, 2, 3, 0);
        goes("steps 3 9 9; pilgrim a 2 plain;", 2, 2, 11, 0, 5, 5);
        SaltStairs x = Due.of("steps 9 3 9; pilgrim a 2 plain; pilgrim b 1 plain;");
        Due.due("stuck", x.go(0), 2);
        Due.due("where", x.pilgrim(0, 0), 3);
        Due.due("on it", x.step(3, 3), 1);
        Due.due("none on it", x.step(2, 3), 0);
        Due.due("what broke bore none more", x.step(2, 2), 1);
        Due.due("the other turns", x.go(1), 1);
        Due.due("stuck ones do not go", x.go(0), 3);
        Due.due("nothing done", x.count(9), 2);
        Due.due("would not", x.would(0, 0), 3);
        Due.due("would be where he is", x.would(0, 1), 3);
        Due.due("would make nothing less", x.would(0, 2), 0);
        Due.due("not there", x.count(5), 1);
    }

    private static void stays() {
        goes("steps 2 3; pilgrim a 2 stays;", 0, 3, 4, 0, 1);
        goes("pilgrim a 2 stays;", 0, 1, 0);
        goes("steps 9 0; pilgrim a 2 stays;", 1, 0, 2, 7, 0);
        goes("steps 9 9 0; pilgrim a 2 stays;", 1, 0, 6, 5, 7, 0);
        goes("steps 9 1; pilgrim a 2 stays;", 2, 1, 3, 7, 0);
        SaltStairs x = Due.of("steps 9; pilgrim a 2 stays;");
        x.go(0);
        Due.due("he lives there", x.go(0), 3);
        Due.due("he came once", x.pilgrim(0, 4), 1);
        Due.due("on no step", x.step(1, 3), 0);
    }

    private static void longOnes() {
        goes("steps 9 9 9; pilgrim a 1 long;", 0, 0, 2, 9, 7, 9);
        goes("steps 9 9 9 9; pilgrim a 1 long;", 0, 0, 4, 8, 8, 8, 8);
        goes("steps 9; pilgrim a 1 long;", 0, 0, 0, 9);
        goes("steps 0; pilgrim a 1 long;", 0, 0, 0, 0);
        goes("steps 9 9; pilgrim a 1 long;", 0, 0, 2, 8, 8);
        goes("steps 5 0 5 5; pilgrim a 1 long;", 0, 0, 4, 3, 0, 3, 5);
        goes("steps 0 0 9; pilgrim a 1 long;", 1, 0, 0, 0, 0, 9);
        goes("steps 5 0 0 5; pilgrim a 1 long;", 1, 0, 1, 4, 0, 0, 5);
        goes("steps 9 1 9; pilgrim a 3 long;", 1, 0, 1, 9, 0, 9);
        goes("steps 9 3 9 2 9; pilgrim a 3 long;", 2, 2, 5, 9, 0, 9, 0, 9);
        goes("steps 0 9 9 0 0; pilgrim a 3 long;", 1, 0, 9, 0, 3, 6, 0, 0);
        goes("steps 3 0 9 0 0; pilgrim a 3 long;", 2, 3, 6, 0, 0, 6, 0, 0);
    }

    private static void knees() {
        goes("steps 9; pilgrim a 2 knees;", 0, 0, 8, 1);
        goes("steps 5; pilgrim a 2 knees;", 2, 2, 5, 0);
        goes("steps 3; pilgrim a 2 knees;", 1, 0, 3, 0);
        goes("steps 2; pilgrim a 2 knees;", 1, 0, 2, 0);
        goes("steps 1; pilgrim a 2 knees;", 1, 0, 1, 0);
        goes("steps 5 5; pilgrim a 1 knees; law knees = if thick < 5 then 1 else 2;", 0, 0, 10, 0, 0);
        SaltStairs x = Due.of("steps 9 3; pilgrim a 2 knees;");
        x.go(0);
        Due.due("each wear is a tread", x.step(1, 2), 2);
        Due.due("the second broke it", x.step(2, 2), 1);
        x = Due.of("steps 1; pilgrim a 2 knees;");
        x.go(0);
        Due.due("the first broke it", x.step(1, 2), 0);
    }

    private static void goneAsHeGoes() {
        goes("steps 3 3; pilgrim a 1 knees; law knees = 3 - 3 * gone;", 2, 2, 3, 0, 3);
        goes("steps 2 9 9; pilgrim a 1 plain; law plain = 2 + gone;", 2, 2, 14, 0, 3, 3);
        goes("steps 0 9 9; pilgrim a 1 long; law long = gone;", 0, 0, 2, 0, 7, 9);
    }

    private static void would() {
        SaltStairs x = Due.of("steps 9 9; pilgrim a 2 plain; pilgrim b 9 plain;");
        x.go(0);
        Due.due("would", x.would(0, 0), 0);
        Due.due("by this one going", x.would(0, 2), 8);
        Due.due("would break", x.would(1, 0), 1);
        Due.due("would be led", x.would(1, 2), 5);
        Due.due("nothing happens", x.count(9), 1);
        Due.due("nothing led", x.pilgrim(1, 3), 0);
        Due.due("no tread", x.step(1, 2), 2);
        thick(x, 5, 5);
    }

    private static void nights() {
        SaltStairs x = Due.of("steps 10 3 0; rain 2 0 5; brine 4 3;");
        Due.due("night", x.night(1), 1);
        thick(x, 8, 1, 0);
        Due.due("brine", x.count(2), 7);
        Due.due("two nights", x.night(2), 3);
        thick(x, 3, 0, 0);
        Due.due("brine", x.count(2), 13);
        Due.due("done", x.count(9), 2);
        Due.due("no night", x.night(0), 3);
        Due.due("no thing done", x.count(9), 2);
        Due.due("a hundred", x.night(100), 103);
        thick(x, 0, 0, 0);
        Due.due("brine", x.count(2), 313);
        x = Due.of("brine 999 99;");
        x.night(90);
        Due.due("brine below", x.count(2), 9909);
        x.night(1);
        Due.due("brine at most", x.count(2), 9999);
        x = Due.of("steps 10; rain; brine 5 0;");
        Due.due("dry", x.night(100), 100);
        thick(x, 10);
        Due.due("no more brine", x.count(2), 5);
    }

    private static void mending() {
        SaltStairs x = Due.of("steps 10 3; rain 4; brine 9 0; pilgrim a 1 plain;");
        Due.due("above", x.mend(1, 1), -2);
        x.night(1);
        Due.due("too much", x.mend(1, 10), -2);
        Due.due("above again", x.mend(1, 5), -2);
        Due.due("nothing done", x.count(9), 1);
        Due.due("mended", x.mend(1, 3), 6);
        Due.due("one that is not there", x.mend(2, 3), 3);
        Due.due("it is there", x.count(5), 0);
        thick(x, 9, 3);
        Due.due("much", x.mend(1, Integer.MAX_VALUE), -2);
        Due.due("the last one", x.mend(1, 1), 2);
        Due.due("it bears", x.go(0), 0);
        Due.due("all", x.count(11), 9);
    }

    private static void undoing() {
        SaltStairs x = Due.of("steps 9 3; rain 1; brine 5 1; pilgrim a 2 plain;");
        x.night(3);
        x.mend(2, 2);
        Due.due("go", x.go(0), 2);
        Due.due("undo go", x.undo(), true);
        thick(x, 6, 2);
        Due.due("led", x.pilgrim(0, 3), 0);
        Due.due("place", x.pilgrim(0, 0), 0);
        Due.due("stuck", x.count(6), 0);
        Due.due("treads", x.step(1, 2), 0);
        Due.due("undo mend", x.undo(), true);
        thick(x, 6, 0);
        Due.due("brine", x.count(2), 8);
        Due.due("undo nights", x.undo(), true);
        thick(x, 9, 3);
        Due.due("day", x.count(3), 0);
        Due.due("brine", x.count(2), 5);
        Due.due("none more", x.undo(), false);
        for (int i = 0; i < 45; i++) {
            x.night(1);
        }
        Due.due("forty", x.count(9), 40);
        for (int i = 44; i >= 5; i--) {
            Due.due("undo", x.undo(), true);
            Due.due("day", x.count(3), i);
        }
        Due.due("no more than forty", x.undo(), false);
        Due.due("day", x.night(0), 5);
    }

    private static void slots() {
        SaltStairs x = Due.of("steps 9 3; rain 1; brine 5 1; pilgrim a 2 plain;");
        Due.due("none held", x.restore(0), false);
        Due.due("hold", x.hold(2), true);
        x.go(0);
        x.tell(1, 4);
        Due.due("hold no thing done", x.count(9), 1);
        Due.due("hold stuck", x.hold(0), true);
        x.night(2);
        x.mend(1, 2);
        Due.due("slots", x.count(10), 2);
        Due.due("restore", x.restore(2), true);
        thick(x, 9, 3);
        Due.due("day", x.count(3), 0);
        Due.due("brine", x.count(2), 5);
        Due.due("place", x.pilgrim(0, 0), 0);
        Due.due("treads", x.step(1, 2), 0);
        Due.due("told ones stay", x.count(7), 1);
        Due.due("nothing to undo", x.undo(), false);
        x.night(1);
        Due.due("restore stuck", x.restore(0), true);
        Due.due("stuck", x.count(6), 1);
        Due.due("led", x.pilgrim(0, 3), 5);
        x.night(1);
        Due.due("undo", x.undo(), true);
        Due.due("undo to what was held", x.undo(), false);
        Due.due("restore once more", x.restore(2), true);
        Due.due("hold over", x.hold(0), true);
        Due.due("restore over", x.restore(0), true);
        Due.due("no one stuck", x.count(6), 0);
        Due.due("slots", x.count(10), 2);
    }

    private static void wrongInputs() {
        SaltStairs x = Due.of("steps 9 3; pilgrim a 2 plain; brine 9 9;");
        int[] odd = {-1, Integer.MIN_VALUE, Integer.MAX_VALUE, 101};
        for (int i : odd) {
            Due.due("step", x.step(i, 0), -1);
            Due.due("what of a step", x.step(1, i), -1);
            Due.due("pilgrim", x.pilgrim(i, 0), -1);
            Due.due("what of a pilgrim", x.pilgrim(0, i), -1);
            Due.due("wear", x.wear(i, 1, true), -1);
            Due.due("wear on", x.wear(0, i, true), -1);
            Due.due("go", x.go(i), -1);
            Due.due("would", x.would(i, 0), -1);
            Due.due("would what", x.would(0, i), -1);
            Due.due("night", x.night(i), -1);
            Due.due("mend", x.mend(i, 1), -1);
            Due.due("hold", x.hold(i), false);
            Due.due("restore", x.restore(i), false);
            Due.due("count", x.count(i), -1);
        }
        Due.due("step 0", x.step(0, 0), -1);
        Due.due("step above", x.step(3, 0), -1);
        Due.due("step what 4", x.step(1, 4), -1);
        Due.due("pilgrim above", x.pilgrim(1, 0), -1);
        Due.due("pilgrim what 6", x.pilgrim(0, 6), -1);
        Due.due("wear above", x.wear(0, 3, true), -1);
        Due.due("wear on the ground", x.wear(0, 0, true), -1);
        Due.due("go above", x.go(1), -1);
        Due.due("would what 3", x.would(0, 3), -1);
        Due.due("mend nothing", x.mend(1, 0), -1);
        Due.due("mend less", x.mend(1, -1), -1);
        Due.due("mend above", x.mend(3, 1), -1);
        Due.due("hold 3", x.hold(3), false);
        Due.due("count 12", x.count(12), -1);
        Due.due("nothing happened", x.count(9), 0);
    }
}
