import java.lang.management.ManagementFactory;

/** What a run makes: little, however dear its calls are, since rows are made once and used again. */
public final class RoomTest {
    private static final Check check = new Check("RoomTest");
    private static final long ROOM_FOR_ONE = 400_000;

    public static void main(String[] args) {
        com.sun.management.ThreadMXBean bean = (com.sun.management.ThreadMXBean) ManagementFactory.getThreadMXBean();
        long thread = Thread.currentThread().getId();
        dearRun(1);
        long before = bean.getThreadAllocatedBytes(thread);
        int sum = dearRun(2);
        long made = bean.getThreadAllocatedBytes(thread) - before;
        check.due("made " + made + " bytes in a run (" + sum + ")", made < ROOM_FOR_ONE ? 1 : 0, 1);
        before = bean.getThreadAllocatedBytes(thread);
        for (int i = 0; i < 512; i++) {
            new FasterToBeLater();
        }
        made = bean.getThreadAllocatedBytes(thread) - before;
        check.due("made " + made + " bytes in 512 objects", made < 512 * 10_000 ? 1 : 0, 1);
        check.end();
    }

    private static int dearRun(int seed) {
        FasterToBeLater x = new FasterToBeLater();
        x.circles(6);
        for (int c = 0; c < 6; c++) {
            x.time(c, c % 2 == 0 ? 2 : 20);
        }
        for (int i = 0; i < 6; i++) {
            x.ship(i % 2, i, 0, 99);
        }
        x.row(0, 0, 40);
        int sum = 0;
        for (int i = 0; i < 80; i++) {
            int a = (i + seed) % 6;
            int b = (a + 1 + i % 5) % 6;
            sum += x.round(a, 63 & ~(1 << a) & ~(1 << b) & ~(1 << (b == (a + 1) % 6 ? (a + 2) % 6 : (a + 1) % 6)), 60);
            sum += x.way(a, b, i % 20) + x.tag(a, b, 5) + x.burnt(0, 10, a) + x.clash(60);
            x.step(1);
        }
        return sum;
    }
}
