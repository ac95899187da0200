import java.lang.management.ManagementFactory;
import java.lang.reflect.InvocationTargetException;
import java.lang.reflect.Method;
import java.lang.reflect.Modifier;
import java.util.Arrays;
import java.util.Random;

/** No call throws, whatever it is given; and calls make no objects, so that many fit into one room. */
public final class RoomTest {
    private static final int[] INTS = {Integer.MIN_VALUE, -1000, -999, -100, -1, 0, 1, 2, 3, 7, 8, 9, 10, 40, 41, 99, 998, 999, 1000, 9998,
        9999, 10000, Integer.MAX_VALUE};
    private static final long[] LONGS = {Long.MIN_VALUE, -1_000_001, -1_000_000, -1, 0, 1, 10, 1010, 10999, 1_000_000, 1_000_001, 12_345_678_901L,
        999_999_999_999L, Long.MAX_VALUE};
    private static final String FULL = "desk first 2 curve 0 shift 9;holiday 4;swap 999 every 30 rate 999;swap 997 every 31 rate 0;"
            + "forward 997 998 rate 999;forward 5 6 rate 1;deposit 3 rate 999;deposit 500 rate 20;swap 700 every 999 rate 50;forward 0 999 rate 5;"
            + "flow 0 plus 999;flow 999 minus 999;flow 998 plus 999;flow 3 minus 1;opens : week < 3 or date = 500;rates : told * 2 - shift * kind;";

    public static void main(String[] args) throws IllegalAccessException {
        neverThrows();
        makesNothing();
        Kit.end();
    }

    private static void neverThrows() throws IllegalAccessException {
        Random r = new Random(5);
        for (int run = 0; run < 300; run++) {
            PillarDesk x = run % 3 == 0 ? new PillarDesk() : Kit.told(run % 3 == 1 ? FULL : FULL.replace("curve 0", "curve 1"));
            for (int k = 0; k < 300; k++) {
                callAny(x, r);
            }
        }
    }

    private static void callAny(PillarDesk x, Random r) throws IllegalAccessException {
        Method[] all = Arrays.stream(PillarDesk.class.getDeclaredMethods()).filter(m -> Modifier.isPublic(m.getModifiers())).toArray(Method[]::new);
        Method m = all[r.nextInt(all.length)];
        Object[] args = new Object[m.getParameterCount()];
        for (int a = 0; a < args.length; a++) {
            if (m.getParameterTypes()[a] == long.class) {
                args[a] = LONGS[r.nextInt(LONGS.length)];
            } else {
                args[a] = r.nextInt(3) == 0 ? r.nextInt(12) : INTS[r.nextInt(INTS.length)];
            }
        }
        try {
            m.invoke(x, args);
        } catch (InvocationTargetException e) {
            Kit.due(m.getName() + Arrays.toString(args) + " threw " + e.getCause(), 1, 0);
        }
    }

    private static void makesNothing() {
        com.sun.management.ThreadMXBean bean = (com.sun.management.ThreadMXBean) ManagementFactory.getThreadMXBean();
        PillarDesk x = Kit.told(FULL);
        x.image(0);
        Kit.tray(x, 0, 10_000_000L);
        callAll(x);
        long before = bean.getThreadAllocatedBytes(Thread.currentThread().getId());
        for (int k = 0; k < 10; k++) {
            callAll(x);
        }
        long made = bean.getThreadAllocatedBytes(Thread.currentThread().getId()) - before;
        Kit.due("bytes made by calls: " + made, made < 4096 ? 1 : 0, 1);
    }

    private static long callAll(PillarDesk x) {
        long sum = x.bump(5, 1) + x.shift(3) + x.amount(0, 5) + x.undo(1) + x.week(3, 40) + x.mover() + x.worth() + x.breaks(5) + x.image(0);
        sum += x.chance(9, 0, 3, 0) + x.mean(9, 3, 1) + x.shifts(0) + x.ask(0) + x.flat(2) + x.left(2) + x.hang(1) + x.opens(0, 999);
        sum += x.business(0, 99) + x.implied(0) + x.judge(0, 3) + x.perform(0) + x.restore(0) + x.lists(1) + x.moves(0) + x.falls(0, 9);
        for (int k = 0; k < 46; k++) {
            sum += x.feed(0x6465736b, 0x20666972, 1, 2, 3);
        }
        return sum + x.desk(900) + x.numbers(1, 2, 3) + x.write(1, 1, 5) + x.off(9999) + x.sound() + x.forward(3, 99);
    }
}
