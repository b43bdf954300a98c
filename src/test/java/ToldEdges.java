/** The edges of part IV of the terms and of promises 23 to 27: what is TOLD, and who went at night. */
final class ToldEdges {
    private static final int[] FAR = {-1, -2, 1000, Integer.MAX_VALUE, Integer.MIN_VALUE};

    private ToldEdges() {
    }

    static void all() {
        told();
        walkers();
        maybe();
        tell();
        forget();
        fits();
        walkersAt();
        who();
    }

    private static String many(int pilgrims) {
        StringBuilder text = new StringBuilder();
        for (int i = 0; i < pilgrims; i++) {
            text.append("pilgrim p").append((char) ('a' + i)).append(" 1 plain;");
        }
        return text.toString();
    }

    private static void told() {
        Doc.term("IV", "TOLD: how THICK a STEP was found one morning; 30 at most, numbered from 0 on; KNOWN by k: the first k.");
        SaltStairs x = Due.of("steps 9 9; pilgrim a 1 plain; pilgrim b 2 plain;");
        for (int i = 0; i < 30; i++) {
            Due.due("the number", x.tell(1 + i % 2, i < 29 ? 7 : 5), i);
        }
        Due.due("a 31st", x.tell(1, 7), -1);
        Due.due("none", x.fits(0), 4);
        Due.due("the first", x.fits(1), 1);
        Due.due("29", x.fits(29), 1);
        Due.due("the last too", x.fits(30), 0);
        Due.due("a 31st is not known", x.fits(31), -1);
        x.forget();
        x.tell(1, 9);
        x.tell(2, 3);
        Due.due("the first of two that can't be together", x.fits(1), 1);
        Due.due("both", x.fits(2), 0);
    }

    private static void walkers() {
        Doc.term("IV", "WALKERS: a set of PILGRIMS who, from the STAIRS by the text on day 0, one by one by numbers, each on the ground then, "
                + "went in one night: it FITS if behind them all that is KNOWN is so.");
        SaltStairs x = Due.of("steps 20; rain 3 9; brine 9 9; pilgrim a 1 plain; pilgrim b 9 plain; law plain = weight + day * 9 + wet;");
        x.go(1);
        x.night(1);
        x.tell(1, 12);
        Due.due("by the text, on day 0", x.fits(1), 1);
        Due.due("a", x.walkers(1, 0), 1);
        x.forget();
        x.tell(1, 0);
        Due.due("b breaks it on the way down, and a, then b, too", x.fits(1), 2);
        Due.due("b", x.walkers(1, 0), 2);
        Due.due("a and b", x.walkers(1, 1), 3);
        x = Due.of("steps 9; pilgrim a 3 stays; pilgrim b 1 plain; law plain = if thick < 9 then 0 else 2;");
        x.go(0);
        x.tell(1, 6);
        Due.due("a, then b, though a lives there now", x.fits(1), 2);
        Due.due("a", x.walkers(1, 0), 1);
        Due.due("a and b", x.walkers(1, 1), 3);
        x.forget();
        x.tell(1, 7);
        Due.due("b", x.walkers(1, 0), 2);
        x = Due.of("steps 9 0 4; pilgrim a 1 plain;");
        x.tell(2, 0);
        x.tell(3, 4);
        x.tell(1, 8);
        Due.due("one that is not there is found so", x.fits(1), 2);
        Due.due("behind it", x.fits(2), 2);
        Due.due("he turned back", x.who(3, true), 1);
        Due.due("another text", Due.read(x, "steps 1; pilgrim a 1 plain;"), 0);
        x.tell(1, 0);
        Due.due("he was stuck", x.who(1, true), 1);
    }

    private static void maybe() {
        Doc.term("IV", "MAYBE: who is in some set that FITS; SURELY: in all.");
        SaltStairs x = Due.of("steps 30; pilgrim a 1 plain; pilgrim b 2 plain; pilgrim c 3 plain; pilgrim d 9 plain;");
        int[] found = {30, 28, 24, 22, 20, 18, 12, 6, 29};
        int[] maybe = {0, 1, 7, 5, 6, 7, 8, 15, 0};
        int[] surely = {0, 1, 0, 5, 6, 7, 8, 8, 0};
        for (int i = 0; i < found.length; i++) {
            x.forget();
            x.tell(1, found[i]);
            Due.due("maybe of " + found[i], x.who(1, false), maybe[i]);
            Due.due("surely of " + found[i], x.who(1, true), surely[i]);
        }
    }

    private static void tell() {
        Doc.promise(23, "It is TOLD how THICK (0 .. 99) a STEP was: its number;");
        SaltStairs x = Due.of("steps 9 99; pilgrim a 1 plain;");
        Due.due("0", x.tell(1, 0), 0);
        Due.due("99", x.tell(2, 99), 1);
        Due.due("more than it was", x.tell(1, 99), 2);
        Due.due("none fits", x.fits(3), 0);
        Due.due("told", x.count(7), 3);
        Due.due("no thing done", x.count(9), 0);
        Doc.promise(23, "NONE, and nothing happens: 30 are there, no such ones.");
        for (int far : FAR) {
            Due.due("tell(" + far + ", 1)", x.tell(far, 1), -1);
            Due.due("tell(1, " + far + ")", x.tell(1, far), -1);
        }
        Due.due("the ground", x.tell(0, 1), -1);
        Due.due("the monastery", x.tell(3, 1), -1);
        Due.due("100", x.tell(1, 100), -1);
        Due.due("told", x.count(7), 3);
        for (int i = 3; i < 30; i++) {
            Due.due("tell", x.tell(1, 1), i);
        }
        Due.due("30 are there", x.tell(1, 1), -1);
        Due.due("30 are there", x.count(7), 30);
        Due.due("no such number", x.fits(31), -1);
    }

    private static void forget() {
        Doc.promise(24, "All that was TOLD is forgotten: how many there were.");
        SaltStairs x = Due.of("steps 9; pilgrim a 1 plain;");
        Due.due("none", x.forget(), 0);
        for (int many = 1; many <= 30; many += 29) {
            for (int i = 0; i < many; i++) {
                x.tell(1, 7);
            }
            Due.due("all of them", x.forget(), many);
            Due.due("none are told", x.count(7), 0);
            Due.due("none is known", x.fits(1), -1);
            Due.due("none", x.forget(), 0);
        }
        Due.due("numbered from 0 on again", x.tell(1, 9), 0);
        Due.due("only what is told anew", x.walkers(1, 0), 0);
    }

    private static void fits() {
        Doc.promise(25, "How many sets of WALKERS FIT, as KNOWN by k;");
        for (int pilgrims = 0; pilgrims <= 8; pilgrims++) {
            SaltStairs x = Due.of("steps 90;" + many(pilgrims));
            Due.due("all sets of " + pilgrims, x.fits(0), 1 << pilgrims);
            x.tell(1, 90 - 2 * pilgrims);
            Due.due("only all of them", x.fits(1), 1);
            x.tell(1, 91);
            Due.due("none", x.fits(2), 0);
        }
        Doc.promise(25, "NONE: no such k.");
        SaltStairs x = Due.of("steps 9; pilgrim a 1 plain;");
        Due.due("nothing is told", x.fits(1), -1);
        Due.due("on a new object", new SaltStairs().fits(1), -1);
        Due.due("on a new object", new SaltStairs().fits(0), 1);
        x.tell(1, 9);
        Due.due("1", x.fits(1), 1);
        Due.due("2", x.fits(2), -1);
        for (int far : FAR) {
            Due.due("fits(" + far + ")", x.fits(far), -1);
        }
    }

    private static void walkersAt() {
        Doc.promise(26, "The i-th of them (bits), the least first;");
        SaltStairs x = Due.of("steps 90;" + many(8));
        for (int i = 0; i < 256; i += 15) {
            Due.due("all sets", x.walkers(0, i), i);
        }
        x.tell(1, 76);
        for (int i = 0; i < 8; i++) {
            Due.due("all but one", x.walkers(1, i), 255 - (128 >> i));
        }
        Doc.promise(26, "NONE: not so many, no such k.");
        Due.due("a ninth", x.walkers(1, 8), -1);
        Due.due("a 257th", x.walkers(0, 256), -1);
        Due.due("the last", x.walkers(0, 255), 255);
        Due.due("no such k", x.walkers(2, 0), -1);
        for (int far : FAR) {
            Due.due("walkers(" + far + ", 0)", x.walkers(far, 0), -1);
            Due.due("walkers(0, " + far + ")", x.walkers(0, far), -1);
        }
        x.tell(1, 1);
        Due.due("none fits", x.walkers(2, 0), -1);
    }

    private static void who() {
        Doc.promise(27, "MAYBE (surely: SURELY; 0 if none FITS), as KNOWN by k: PILGRIMS (bits);");
        SaltStairs x = Due.of("steps 30; pilgrim a 1 plain; pilgrim b 1 plain; pilgrim c 3 plain;");
        x.tell(1, 22);
        x.tell(1, 99);
        Due.due("maybe anyone", x.who(0, false), 7);
        Due.due("surely no one", x.who(0, true), 0);
        Due.due("maybe all", x.who(1, false), 7);
        Due.due("surely c", x.who(1, true), 4);
        Due.due("none fits", x.who(2, false), 0);
        Due.due("none fits", x.who(2, true), 0);
        Due.due("one may have gone", Due.of("steps 9;" + many(1)).who(0, false), 1);
        Due.due("or not", Due.of("steps 9;" + many(1)).who(0, true), 0);
        Due.due("all eight", Due.of("steps 90;" + many(8)).who(0, false), 255);
        SaltStairs all = Due.of("steps 90;" + many(8));
        all.tell(1, 74);
        Due.due("surely all eight", all.who(1, true), 255);
        Due.due("of nobody", new SaltStairs().who(0, true), 0);
        Due.due("of nobody", new SaltStairs().who(0, false), 0);
        Doc.promise(27, "NONE: no such k.");
        for (int far : FAR) {
            Due.due("who(" + far + ", true)", x.who(far, true), -1);
            Due.due("who(" + far + ", false)", x.who(far, false), -1);
        }
        Due.due("no such k", x.who(3, true), -1);
        Due.due("no such k", x.who(3, false), -1);
    }
}
