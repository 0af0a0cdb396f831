import java.lang.management.ManagementFactory;
import java.lang.reflect.Method;
import java.lang.reflect.Modifier;

/** All 512 calls of a run share one room, so no call may make much; and none may end by a fault of the machine. */
public final class RoomTest {
    private static final int CALLS = 512;
    /** The room has 7.3 million fields and elements; a twentieth of it is plenty, at 4 bytes each. */
    private static final long MOST_BYTES = 4 * 7_300_000L / 20;
    private static final int[] ODD = {0, 1, -1, 2, 5, 10, 12, 39, 40, 41, 96, 100, 999, 1000, 9999, 10000, 50999,
        Integer.MAX_VALUE, Integer.MIN_VALUE, Integer.MAX_VALUE - 1, Integer.MIN_VALUE + 1, -999, -9999, -10000};

    public static void main(String[] args) throws Exception {
        int place = 0;
        for (Method method : BarsTogether.class.getDeclaredMethods()) {
            if (Modifier.isPublic(method.getModifiers())) {
                oddCalls(method, place++);
            }
        }
        com.sun.management.ThreadMXBean room = (com.sun.management.ThreadMXBean) ManagementFactory.getThreadMXBean();
        long before = room.getThreadAllocatedBytes(Thread.currentThread().getId());
        dearCalls();
        long used = room.getThreadAllocatedBytes(Thread.currentThread().getId()) - before;
        System.out.println("a run makes " + used + " bytes, at most " + MOST_BYTES + " are due");
        if (used > MOST_BYTES) {
            System.exit(1);
        }
    }

    private static BarsTogether full() {
        BarsTogether x = new BarsTogether();
        for (int i = 0; i < 6; i++) {
            x.bar(i % 3);
        }
        for (int i = 0; i < 5; i++) {
            x.both(i % 2 == 0 ? 1 : 10, 9);
        }
        for (int i = 0; i < 12; i++) {
            x.counting(i % 8, 1, 0, 50, 1 + i);
            x.line(100 * i % 1000);
            x.let(100 * i);
            x.quiet(i + 1, 100);
        }
        x.sheet(0, 16, 40);
        x.sheet(1, 16, 40);
        x.image();
        return x;
    }

    /** Each act with many odd numbers in each place, on a new object and on a full one. */
    private static void oddCalls(Method method, int salt) throws Exception {
        Class<?>[] types = method.getParameterTypes();
        for (int i = 0; i < 4000; i++) {
            BarsTogether x = i % 8 == 0 ? new BarsTogether() : full();
            Object[] arguments = new Object[types.length];
            int rest = i * 31 + salt;
            for (int j = 0; j < types.length; j++) {
                int odd = ODD[Math.floorMod(rest * (j + 3) + j * i, ODD.length)];
                rest = rest / ODD.length + i * (j + 1);
                arguments[j] = types[j] == long.class ? (Object) (long) odd : (Object) odd;
            }
            method.invoke(x, arguments);
        }
    }

    private static void dearCalls() {
        BarsTogether x = full();
        for (int i = 0; i < CALLS / 16; i++) {
            for (int j = 0; j < 6; j++) {
                x.feed(0x2b312b312b312b31L, 8);
            }
            x.feed('1', 1);
            if (x.text(i % 9) != 1) {
                System.out.println("the TEXT has a FAULT");
                System.exit(1);
            }
            x.image();
            x.restore();
            x.hours(1, 50000, 400, 0);
            x.paid(i % 12, 40, 0);
            x.chosen(i % 12, 40);
            x.gives(i % 12);
            x.find(0, 1);
            x.stars(0, 0, 960, 999);
        }
    }
}
