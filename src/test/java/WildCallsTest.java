import java.util.Random;

/** Calls with any arguments, in any state, and far more of them than promised: none may throw. */
public final class WildCallsTest {
    private static final int[] INTS = {
        -3, -2, -1, 0, 0, 1, 1, 2, 2, 3, 3, 4, 5, 6, 7, 8, 12, 13, 14, 15, 16, 17, 30, 31, 32, 255,
        Integer.MAX_VALUE, Integer.MAX_VALUE - 1, Integer.MIN_VALUE, Integer.MIN_VALUE + 1};
    private static final long[] LONGS = {
        0, 1, 2, 3, 4, 5, 6, 7, 16, 17, 20, 21, 64, 85, 1L << 40, 1L << 60, (1L << 61) - 1, 1L << 61, 1L << 62, -1, -4,
        Long.MAX_VALUE, Long.MIN_VALUE};

    public static void main(String[] args) {
        Random random = new Random(7);
        long before = 0;
        for (int run = 0; run < 200; run++) {
            WordSchool x = new WordSchool();
            for (int c = 0; c < 3000; c++) {
                String name = RandomRunsTest.NAMES[random.nextInt(RandomRunsTest.NAMES.length)];
                long[] wild = new long[5];
                for (int i = 0; i < 5; i++) {
                    wild[i] = random.nextInt(3) > 0 ? INTS[random.nextInt(15)] : INTS[random.nextInt(INTS.length)];
                }
                if (name.equals("answer") || name.equals("place") || name.equals("forget") || name.equals("know")) {
                    wild[1] = LONGS[random.nextInt(LONGS.length)];
                }
                if (name.equals("tell")) {
                    wild[0] = LONGS[random.nextInt(LONGS.length)];
                }
                if (name.equals("word")) {
                    wild[2] = LONGS[random.nextInt(LONGS.length)];
                }
                before += RandomRunsTest.ask(x, name, wild);
                if (x.status() < 0 || x.status() > 6) {
                    System.out.println("status() answered " + x.status() + " behind " + name);
                    System.exit(1);
                }
            }
        }
        System.out.println("WildCallsTest: no call threw (sum of all answers " + before + ")");
    }
}
