import java.util.Random;

/** Runs of calls at random, each answer held against that of the model. */
public final class ModelTest {
    private final Random random;
    private final Texts texts;
    private final SaltStairs stairs = new SaltStairs();
    private final Model model = new Model();
    private final int run;
    private final boolean large;

    private ModelTest(int run) {
        this.run = run;
        random = new Random(run);
        texts = new Texts(random);
        large = run % 40 == 0;
    }

    public static void main(String[] args) {
        int runs = args.length > 0 ? Integer.parseInt(args[0]) : 600;
        int first = args.length > 1 ? Integer.parseInt(args[1]) : 0;
        for (int run = first; run < first + runs; run++) {
            new ModelTest(run).play();
        }
        Due.end();
    }

    private void play() {
        if (run % 3 == 0) {
            for (int i = 0; i < 4; i++) {
                readText(texts.spoilt());
            }
        }
        readText(texts.fine(large ? 7 : random.nextInt(6)));
        for (int i = 0; i < 120; i++) {
            if (random.nextInt(60) == 0) {
                readText(texts.fine(random.nextInt(6)));
            }
            change();
            ask();
            compare();
        }
    }

    private void due(String call, long got, long want) {
        Due.due("run " + run + ": " + call, got, want);
    }

    private void due(String call, boolean got, boolean want) {
        due(call, got ? 1 : 0, want ? 1 : 0);
    }

    private void readText(String text) {
        int[] f = Due.fives(text);
        for (int i = 0; i + 4 < f.length; i += 5) {
            due("feed", stairs.feed(f[i], f[i + 1], f[i + 2], f[i + 3], f[i + 4]),
                    model.feed(f[i], f[i + 1], f[i + 2], f[i + 3], f[i + 4]));
        }
        int more = stairs.count(8) - text.length();
        due("back", stairs.back(more), model.back(more));
        due("read of " + text, stairs.read(), model.read());
        due("place in " + text, stairs.place(), model.place());
        compare();
    }

    private int about(int least, int most) {
        return random.nextInt(25) == 0 ? odd() : least + random.nextInt(most - least + 1);
    }

    private int odd() {
        int[] odd = {-1, -2, -3, 0, 1, 7, 8, 9, 25, 30, 31, 32, 33, 99, 100, 101, 255, 256, 511, 999, 1000, 1 << 30,
            Integer.MAX_VALUE, Integer.MIN_VALUE};
        return odd[random.nextInt(odd.length)];
    }

    private int aPilgrim() {
        return about(0, Math.max(0, model.text.pilgrims.size() - 1));
    }

    private int aStep() {
        return about(1, Math.max(1, model.text.steps.size()));
    }

    private int aSet() {
        int ground = 0;
        for (int p = 0; p < model.text.pilgrims.size(); p++) {
            ground |= model.now.place[p] == 0 ? 1 << p : 0;
        }
        return random.nextInt(20) == 0 ? odd() : ground & random.nextInt(256);
    }

    private void change() {
        switch (random.nextInt(16)) {
            case 0, 1, 2, 3 -> {
                int p = aPilgrim();
                due("go(" + p + ")", stairs.go(p), model.go(p));
            }
            case 4, 5 -> {
                int n = random.nextInt(12) == 0 ? about(0, 101) : random.nextInt(3);
                due("night(" + n + ")", stairs.night(n), model.night(n));
            }
            case 6, 7, 8 -> {
                int step = aStep();
                int much = about(0, 9);
                due("mend(" + step + ", " + much + ")", stairs.mend(step, much), model.mend(step, much));
            }
            case 9, 10 -> due("undo()", stairs.undo(), model.undo());
            case 11 -> tell();
            case 12 -> {
                int slot = about(0, 2);
                due("hold(" + slot + ")", stairs.hold(slot), model.hold(slot));
            }
            case 13 -> {
                int slot = about(0, 2);
                due("restore(" + slot + ")", stairs.restore(slot), model.restore(slot));
            }
            case 14 -> {
                if (random.nextInt(6) == 0) {
                    due("forget()", stairs.forget(), model.forget());
                }
            }
            default -> tell();
        }
    }

    private void tell() {
        int step = aStep();
        boolean isStep = step >= 1 && step <= model.text.steps.size();
        int thick = isStep && random.nextInt(3) > 0 ? model.now.thick.get(step - 1) : about(0, 99);
        due("tell(" + step + ", " + thick + ")", stairs.tell(step, thick), model.tell(step, thick));
    }

    private void ask() {
        int set = aSet();
        int p = aPilgrim();
        int step = aStep();
        int what = about(0, 3);
        int k = about(0, Math.max(0, model.count(7)));
        switch (random.nextInt(14)) {
            case 0, 1 -> askOrder(set, what);
            case 2 -> due("need(" + set + ", " + step + ")", stairs.need(set, step), model.need(set, step));
            case 3 -> due("need(" + set + ", -1)", stairs.need(set, -1), model.need(set, -1));
            case 4 -> due("bears(" + set + ")", stairs.bears(set), model.bears(set));
            case 5 -> askOdds(set);
            case 6 -> {
                int n = about(1, random.nextInt(9) == 0 ? 100 : 6);
                due("season(" + n + ", " + what + ")", stairs.season(n, what), model.season(n, what));
            }
            case 7 -> due("rescue(" + p + ")", stairs.rescue(p), model.rescue(p));
            case 8 -> {
                int weight = about(1, random.nextInt(3) == 0 ? 999 : 20);
                due("bell(" + weight + ")", stairs.bell(weight), model.bell(weight));
            }
            case 9 -> due("fits(" + k + ")", stairs.fits(k), model.fits(k));
            case 10 -> {
                int i = about(0, 4);
                due("walkers(" + k + ", " + i + ")", stairs.walkers(k, i), model.walkers(k, i));
            }
            case 11 -> due("who(" + k + ", true)", stairs.who(k, true), model.who(k, true));
            case 12 -> due("who(" + k + ", false)", stairs.who(k, false), model.who(k, false));
            default -> due("would(" + p + ", " + what + ")", stairs.would(p, what), model.would(p, what));
        }
        boolean up = random.nextBoolean();
        due("wear(" + p + ", " + step + ", " + up + ")", stairs.wear(p, step, up), model.wear(p, step, up));
        due("rescue(" + p + ")", stairs.rescue(p), model.rescue(p));
    }

    private void askOrder(int set, int what) {
        due("order(" + set + ", " + what + ")", stairs.order(set, what), model.order(set, what));
        int i = about(0, 4);
        due("orderAt(" + set + ", " + i + ")", stairs.orderAt(set, i), model.orderAt(set, i));
    }

    private void askOdds(int set) {
        int r = about(0, 9);
        int n = about(0, random.nextInt(9) == 0 ? 10 : 4);
        int b = about(1, 9);
        int a = about(0, Math.max(1, Math.min(9, b)));
        due("odds(" + set + ", " + r + ", " + n + ", " + a + ", " + b + ")", stairs.odds(set, r, n, a, b),
                model.odds(set, r, n, a, b));
    }

    private void compare() {
        for (int what = -1; what <= 12; what++) {
            due("count(" + what + ")", stairs.count(what), model.count(what));
        }
        for (int step = 0; step <= model.text.steps.size() + 1; step++) {
            for (int what = -1; what <= 4; what++) {
                due("step(" + step + ", " + what + ")", stairs.step(step, what), model.step(step, what));
            }
        }
        for (int p = -1; p <= model.text.pilgrims.size(); p++) {
            for (int what = -1; what <= 6; what++) {
                due("pilgrim(" + p + ", " + what + ")", stairs.pilgrim(p, what), model.pilgrim(p, what));
            }
        }
        due("fair()", stairs.fair(), model.fair());
    }
}
