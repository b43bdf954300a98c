import java.util.Random;

/** Any arguments in any state: no call may throw, and none that asks may change a thing. */
public final class WildTest {
    private static final int[] ODD = {0, 1, 2, 3, 4, 5, 7, 8, 9, 12, 24, 25, 30, 40, 99, 100, 127, 255, 256, 999, 1000,
        2000, -1, -2, -3, -100, Integer.MAX_VALUE, Integer.MIN_VALUE, Integer.MAX_VALUE - 1, 1 << 31 - 1};

    private final Random random;
    private final SaltStairs stairs = new SaltStairs();

    private WildTest(int run) {
        random = new Random(run);
    }

    public static void main(String[] args) {
        for (int run = 0; run < 400; run++) {
            WildTest test = new WildTest(run);
            for (int i = 0; i < 512; i++) {
                if (i % 100 == 0) {
                    Due.put(test.stairs, new Texts(test.random).fine(test.random.nextInt(9)));
                    test.stairs.read();
                }
                test.call(i % 3 == 0 ? test.random.nextInt(12) : 12 + test.random.nextInt(17));
            }
        }
        Due.end();
    }

    private int any() {
        int kind = random.nextInt(10);
        return kind == 0 ? random.nextInt() : kind < 3 ? ODD[random.nextInt(ODD.length)] : random.nextInt(9);
    }

    private void call(int which) {
        long before = which < 12 ? 0 : state();
        try {
            if (which < 12) {
                change(which);
            } else {
                ask(which);
            }
        } catch (RuntimeException | StackOverflowError e) {
            Due.due("call " + which + " threw " + e, 1, 0);
        }
        if (which >= 12) {
            Due.due("call " + which + " changed nothing", state(), before);
        }
    }

    private long state() {
        long sum = stairs.place();
        for (int what = 0; what < 12; what++) {
            sum = sum * 31 + stairs.count(what);
        }
        for (int step = 1; step <= stairs.count(0); step++) {
            for (int what = 0; what < 4; what++) {
                sum = sum * 31 + stairs.step(step, what);
            }
        }
        for (int p = 0; p < stairs.count(1); p++) {
            for (int what = 0; what < 6; what++) {
                sum = sum * 31 + stairs.pilgrim(p, what);
            }
        }
        return sum;
    }

    private void change(int which) {
        switch (which) {
            case 0 -> stairs.feed(any(), any(), any(), any(), any());
            case 1 -> stairs.back(any());
            case 2 -> {
                if (random.nextInt(20) == 0) {
                    stairs.read();
                }
            }
            case 3, 4 -> stairs.go(any());
            case 5 -> stairs.night(any());
            case 6 -> stairs.mend(any(), any());
            case 7 -> stairs.undo();
            case 8 -> stairs.tell(any(), any());
            case 9 -> stairs.forget();
            case 10 -> stairs.hold(any());
            default -> stairs.restore(any());
        }
    }

    private void ask(int which) {
        switch (which) {
            case 12 -> stairs.place();
            case 13 -> stairs.step(any(), any());
            case 14 -> stairs.pilgrim(any(), any());
            case 15 -> stairs.wear(any(), any(), random.nextBoolean());
            case 16 -> stairs.would(any(), any());
            case 17 -> stairs.order(any(), any());
            case 18 -> stairs.orderAt(any(), any());
            case 19 -> stairs.need(any(), any());
            case 20 -> stairs.bears(any());
            case 21 -> stairs.odds(any(), any(), any(), any(), any());
            case 22 -> stairs.season(any(), any());
            case 23 -> stairs.rescue(any());
            case 24 -> stairs.bell(any());
            case 25 -> stairs.fits(any());
            case 26 -> stairs.walkers(any(), any());
            case 27 -> stairs.who(any(), random.nextBoolean());
            default -> stairs.count(any());
        }
    }
}
