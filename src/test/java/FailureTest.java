/** Promises 40 to 42: failures, and status(). */
public final class FailureTest {
    private static final Due due = new Due("FailureTest");

    private static void blame() {
        WordSchool x = due.promise(40);
        int[] numbers = {0, 7, -1, Integer.MAX_VALUE, Integer.MIN_VALUE};
        for (int p = 0; p < 16; p++) {
            for (int n : numbers) {
                due.done("blame(" + p + ", " + n + ")", x.blame(p, n), 0);
            }
            due.done("blame(" + p + ", p)", x.blame(p, p), 0);
            due.is("nothing lies there", x.kind(p), -1);
        }
        due.refused("blame(16, 1)", x.blame(16, 1), Due.BEYOND);
        due.refused("blame(-1, 1)", x.blame(-1, 1), Due.BEYOND);
        for (int p = 0; p < 16; p++) {
            due.done("the latest one is kept", x.raise(p), p);
        }
        x.machine(3, 2, 2, 2);
        due.done("besides a machine", x.blame(3, 9), 0);
        due.is("kind(3)", x.kind(3), 2);
        x.teacher(3, 1, 3, 4);
        due.is("besides a TEACHER", x.kind(3), 5);
        due.done("raise(3)", x.raise(3), 9);
        due.is("kind(3)", x.kind(3), 5);
    }

    private static void raise() {
        WordSchool x = due.promise(41);
        due.refused("none is kept", x.raise(0), Due.MISSING);
        due.refused("raise(16)", x.raise(16), Due.BEYOND);
        due.refused("raise(-1)", x.raise(-1), Due.BEYOND);
        int[] numbers = {0, 7, -1, Integer.MAX_VALUE, Integer.MIN_VALUE};
        for (int n : numbers) {
            x.blame(15, n);
            x.lift(0);
            due.done("raise(15)", x.raise(15), n);
            due.refused("it is gone then", x.raise(15), Due.MISSING);
        }
    }

    private static void status() {
        WordSchool x = due.promise(42);
        due.is("ahead of any ACT", x.status(), 0);
        x.kind(99);
        due.is("behind an ASK", x.status(), 0);
        x.lift(0);
        due.is("MISSING", x.status(), 1);
        x.lift(16);
        due.is("BEYOND", x.status(), 2);
        x.machine(0, 0, -1, 1);
        due.is("NEGATIVE", x.status(), 3);
        x.machine(0, 4, 1, 1);
        due.is("KIND", x.status(), 4);
        x.machine(0, 0, 1, 1);
        due.is("none", x.status(), 0);
        x.teacher(1, 2, 0, 0);
        x.forget(1, 1);
        x.forget(1, 1);
        due.is("ALIKE", x.status(), 6);
        for (int i = 0; i < 7; i++) {
            x.forget(1, 64 + i);
        }
        due.is("none", x.status(), 0);
        x.forget(1, 16);
        due.is("FULL", x.status(), 5);
        due.is("and again", x.status(), 5);
        x.raise(99);
        x.unknow();
        due.is("none", x.status(), 0);
    }

    /** Each thing on the desk is of its own, and two objects know nothing of one another. */
    private static void apart() {
        WordSchool x = due.promise(1);
        WordSchool y = new WordSchool();
        x.machine(0, 0, 2, 2);
        x.least(0, 1);
        x.say(0, 0, 1);
        due.is("says(1, 0)", x.says(1, 0), 0);
        due.is("kind of the other object", y.kind(0), -1);
        x.lift(9);
        due.is("status of the other object", y.status(), 0);
    }

    public static void main(String[] args) {
        blame();
        raise();
        status();
        apart();
        due.end();
    }
}
