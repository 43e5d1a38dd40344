import java.lang.management.ManagementFactory;

/** What calls make: all rows are made with the object, and no call makes anything. */
public final class RoomTest {
    private static final com.sun.management.ThreadMXBean BEAN =
        (com.sun.management.ThreadMXBean) ManagementFactory.getThreadMXBean();
    private static final long MOST_FOR_AN_OBJECT = 120_000;
    private static final long MOST_FOR_CALLS = 4_000;
    private static int wrong;

    private static long made() {
        return BEAN.getCurrentThreadAllocatedBytes();
    }

    private static void dearCalls(WordSchool x) {
        for (int i = 0; i < 8; i++) {
            x.machine(0, i % 4, 14, 4);
            x.draw(0, i);
            x.machine(1, 0, 6, 3);
            x.draw(1, i);
            x.machine(2, 0, 5, 3);
            x.draw(2, i + 3);
            x.least(0, 3);
            x.differ(0, 1);
            x.word(0, 1, 1_000_000_007L);
            x.place(0, 1L << 60);
            x.count(0, 1, 30);
            for (int how = 0; how < 6; how++) {
                x.join(how, 1, 2, 4);
            }
            x.suite(1, 2);
            x.passes(1, 2, 2);
            x.teacher(5, 0, 1, 30);
            x.learn(5);
            for (int c = 0; c < 8; c++) {
                x.exam();
            }
            x.guess(6);
            x.unknow();
            for (int w = 0; w < 12; w++) {
                x.know(5, (1L << 40) + 77777 * w);
            }
            x.fewest(7);
            x.fits(7);
        }
    }

    private static void check(String what, long bytes, long most) {
        System.out.println("RoomTest: " + what + ": " + bytes + " bytes");
        if (bytes > most) {
            System.out.println("RoomTest: that is more than " + most);
            wrong++;
        }
    }

    public static void main(String[] args) {
        dearCalls(new WordSchool());
        made();
        long first = made();
        WordSchool x = new WordSchool();
        long second = made();
        dearCalls(x);
        long third = made();
        check("a new object", second - first, MOST_FOR_AN_OBJECT);
        check("a run of dear calls", third - second, MOST_FOR_CALLS);
        if (wrong != 0) {
            System.exit(1);
        }
    }
}
