import com.sun.management.ThreadMXBean;
import java.lang.management.ManagementFactory;

/** All calls of a run live in one room: what 512 of the dearest ones take of it is nothing, and a new object takes little. */
public final class RoomTest {
    private static final ThreadMXBean THREADS = (ThreadMXBean) ManagementFactory.getThreadMXBean();
    private static long sum;

    private RoomTest() {
    }

    public static void main(String[] args) {
        dearRun();
        long before = bytes();
        SaltStairs stairs = new SaltStairs();
        long made = bytes() - before;
        Due.due("a new object takes below 200,000 bytes: " + made, made < 200000, true);
        int[] fives = Due.fives(dearText());
        before = bytes();
        calls(stairs, fives);
        long taken = bytes() - before;
        Due.due("512 calls take no bytes: " + taken, taken < 2000, true);
        System.out.println("sum " + sum + ", object " + made + " bytes, calls " + taken + " bytes");
        Due.end();
    }

    private static long bytes() {
        return THREADS.getCurrentThreadAllocatedBytes();
    }

    // Whatever the Java machine itself takes for the first calls is taken here.
    private static void dearRun() {
        bytes();
        calls(new SaltStairs(), Due.fives(dearText()));
    }

    private static String dearText() {
        StringBuilder text = new StringBuilder("steps");
        for (int i = 0; i < 24; i++) {
            text.append(" 70");
        }
        text.append("; rain 1 0 2; brine 900 99;");
        for (int i = 0; i < 8; i++) {
            text.append("pilgrim p").append((char) ('a' + i)).append(" ").append(9 + i)
                    .append(i % 4 == 0 ? " knees;" : i % 4 == 1 ? " long;" : i % 4 == 2 ? " plain;" : " stays;");
        }
        text.append("law knees = if thick < 3 then thick * 2 else (weight + gone - day * 0) / 3;");
        text.append("law plain = if thick < 20 then weight else (weight * 3 + step - 2 * (up + wet)) / 4;");
        return text.toString();
    }

    private static void calls(SaltStairs stairs, int[] f) {
        for (int i = 0; i + 4 < f.length; i += 5) {
            stairs.feed(f[i], f[i + 1], f[i + 2], f[i + 3], f[i + 4]);
        }
        sum += stairs.read();
        for (int i = f.length / 5 + 1; i < 512; i++) {
            ask(stairs, i);
        }
    }

    private static void ask(SaltStairs stairs, int i) {
        switch (i % 16) {
            case 0 -> sum += stairs.go(i / 16 % 8);
            case 1 -> sum += stairs.night(1);
            case 2 -> sum += stairs.order(127, 0);
            case 3 -> sum += stairs.orderAt(254, 3);
            case 4 -> sum += stairs.need(255, -1);
            case 5 -> sum += stairs.odds(255, 1, 12, 2, 9);
            case 6 -> sum += stairs.season(100, 3);
            case 7 -> sum += stairs.rescue(i / 16 % 8);
            case 8 -> sum += stairs.bell(60);
            case 9 -> sum += stairs.tell(1 + i % 24, 70);
            case 10 -> sum += stairs.fits(stairs.count(7));
            case 11 -> sum += stairs.who(0, true);
            case 12 -> sum += stairs.hold(i % 3) ? 1 : 0;
            case 13 -> sum += stairs.mend(1 + i % 24, 1);
            case 14 -> sum += stairs.undo() ? 1 : 0;
            default -> sum += stairs.restore(i / 16 % 3) ? 1 : 0;
        }
    }
}
