import java.lang.management.ManagementFactory;
import java.lang.reflect.Array;
import java.lang.reflect.Field;
import java.lang.reflect.Modifier;

/** What calls make: all rows are made with the object, and no call makes anything. */
public final class RoomTest {
    private static final com.sun.management.ThreadMXBean BEAN =
        (com.sun.management.ThreadMXBean) ManagementFactory.getThreadMXBean();
    private static final long MOST_FOR_AN_OBJECT = 120_000;
    private static final long MOST_FOR_CALLS = 4_000;
    /** So small that even a run of 512 calls which each make a new object would fit into the room. */
    private static final long MOST_OBJECTS = 600_000 / 512;
    private static final long MOST_PARTS = 7_300_000 / 512;
    private static int wrong;
    private static long objects;
    private static long parts;

    private static long made() {
        return BEAN.getCurrentThreadAllocatedBytes();
    }

    private static void dearCalls(WordSchool x) {
        for (int i = 0; i < 8; i++) {
            x.machine(0, i % 4, 14, 4);
            x.draw(0, i);
            x.machine(1, 0, 6, 3);
            x.draw(1, i);
            x.machine(2, 0, 5, 3);
            x.draw(2, i + 3);
            x.least(0, 3);
            x.differ(0, 1);
            x.word(0, 1, 1_000_000_007L);
            x.place(0, 1L << 60);
            x.count(0, 1, 30);
            for (int how = 0; how < 6; how++) {
                x.join(how, 1, 2, 4);
            }
            x.suite(1, 2);
            x.passes(1, 2, 2);
            x.teacher(5, 0, 1, 30);
            x.learn(5);
            for (int c = 0; c < 8; c++) {
                x.exam();
            }
            x.guess(6);
            x.unknow();
            for (int w = 0; w < 12; w++) {
                x.know(5, (1L << 40) + 77777 * w);
            }
            x.fewest(7);
            x.fits(7);
        }
    }

    /** Counts what an object is made of: objects and arrays, and their fields and elements. */
    private static void countParts(Object of) throws IllegalAccessException {
        objects++;
        if (of.getClass().isArray()) {
            parts += Array.getLength(of);
            boolean plain = of.getClass().getComponentType().isPrimitive();
            for (int i = 0; !plain && i < Array.getLength(of); i++) {
                countParts(Array.get(of, i));
            }
            return;
        }
        for (Field field : of.getClass().getDeclaredFields()) {
            if (!Modifier.isStatic(field.getModifiers())) {
                parts++;
                field.setAccessible(true);
                if (!field.getType().isPrimitive()) {
                    countParts(field.get(of));
                }
            }
        }
    }

    private static void check(String what, long bytes, long most) {
        System.out.println("RoomTest: " + what + ": " + bytes);
        if (bytes > most) {
            System.out.println("RoomTest: that is more than " + most);
            wrong++;
        }
    }

    public static void main(String[] args) throws IllegalAccessException {
        dearCalls(new WordSchool());
        made();
        long first = made();
        WordSchool x = new WordSchool();
        long second = made();
        dearCalls(x);
        long third = made();
        countParts(x);
        check("bytes that a new object takes", second - first, MOST_FOR_AN_OBJECT);
        check("bytes that a run of dear calls takes", third - second, MOST_FOR_CALLS);
        check("objects and arrays of an object", objects, MOST_OBJECTS);
        check("fields and elements of an object", parts, MOST_PARTS);
        if (wrong != 0) {
            System.exit(1);
        }
    }
}
