import java.lang.management.ManagementFactory;
import java.lang.reflect.InvocationTargetException;
import java.lang.reflect.Method;
import java.util.Random;

/** Calls with any numbers in any state never throw, and an object's calls take no more room than its first ones. */
public final class RoomTest {
    private static final int[] ODD = {0, 1, 2, 3, 4, 5, 6, 7, 8, 9, 12, 15, 16, 27, 28, 29, 31, 32, 33, 60, 96, 99, 600, 811,
            812, 999, 1000, 9999, 10000, -1, -2, -100, -999, -1000, 0x1fffffff, 0x20000000, TickBound.NONE,
            Integer.MAX_VALUE, Integer.MIN_VALUE, Integer.MAX_VALUE - 1, Integer.MIN_VALUE + 1};
    /** Bytes: the rows of one object, and the one row that is made when it is first needed. */
    private static final long OBJECT_MOST = 90000, CALLS_MOST = 90000;

    private static int wrong = 0;

    private static void anyCalls(int seed) throws IllegalAccessException {
        Random chance = new Random(seed);
        TickBound x = new TickBound();
        Method[] all = TickBound.class.getDeclaredMethods();
        java.util.Arrays.sort(all, java.util.Comparator.comparing(Method::getName));
        for (int i = 0; i < 512; i++) {
            if (chance.nextInt(3) > 0) {
                someOrder(x, chance);
            }
            Method m = all[chance.nextInt(all.length)];
            if (!java.lang.reflect.Modifier.isPublic(m.getModifiers()) || m.getName().equals("clear")) {
                continue;
            }
            Object[] v = new Object[m.getParameterCount()];
            for (int j = 0; j < v.length; j++) {
                v[j] = chance.nextInt(3) == 0 ? ODD[chance.nextInt(ODD.length)] : chance.nextInt(9);
            }
            try {
                m.invoke(x, v);
            } catch (InvocationTargetException e) {
                wrong++;
                System.out.println("seed " + seed + ": " + m.getName() + java.util.Arrays.toString(v) + " threw "
                        + e.getCause());
            }
        }
    }

    private static void someOrder(TickBound x, Random chance) {
        int kind = chance.nextInt(8);
        int k = x.order(kind, chance.nextInt(4), kind == 7 ? 0 : chance.nextInt(5),
                kind == 4 || kind == 7 ? 0 : chance.nextInt(4));
        if (k >= 0 && kind == 7) {
            x.places(k, chance.nextInt(1 << 29));
        }
        int e = x.edges() > 0 ? chance.nextInt(x.edges()) : 0;
        x.turns(e, chance.nextInt(3));
    }

    private static long taken() {
        com.sun.management.ThreadMXBean bean = (com.sun.management.ThreadMXBean) ManagementFactory.getThreadMXBean();
        return bean.getThreadAllocatedBytes(Thread.currentThread().getId());
    }

    private static void dearCalls(TickBound x, int round) {
        x.clear();
        for (int i = 0; i < 10; i++) {
            x.order(1, 1, 4, 2 * i);
        }
        for (int i = 10; i < 28; i++) {
            x.order(i == 27 ? 7 : 3, 0, i == 27 ? 0 : round % 10, i == 27 ? 0 : 5);
        }
        x.places(27, 0x1fffffff);
        for (int e = 0; e < x.edges(); e++) {
            x.turns(e, 0);
        }
        x.run(round);
        x.shown(4, 0);
        x.bound();
        x.way(20);
        x.shared(3, 3);
        x.locks(8, 1);
        x.keep();
        x.back();
        x.sheet(0, 3, 32);
        x.lay(0, 2, 0);
        x.lay(1, 1, 0);
        x.feed(0x6d697373, 0x20313220, 0x20202020);
        x.machine();
        x.tell(5);
        x.check();
        x.tell(5);
        x.record();
    }

    private static void room() {
        dearCalls(new TickBound(), 0);
        long before = taken();
        TickBound x = new TickBound();
        long made = taken();
        for (int round = 0; round < 20; round++) {
            dearCalls(x, round);
        }
        long used = taken();
        System.out.println("an object takes " + (made - before) + " bytes, its calls " + (used - made));
        if (made - before > OBJECT_MOST || used - made > CALLS_MOST) {
            wrong++;
            System.out.println("that is too much room");
        }
    }

    public static void main(String[] args) throws Exception {
        for (int seed = 0; seed < 400; seed++) {
            anyCalls(seed);
        }
        room();
        System.out.println(wrong == 0 ? "nothing was thrown" : wrong + " things are wrong");
        if (wrong != 0) {
            System.exit(1);
        }
    }
}
