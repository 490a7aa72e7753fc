import java.lang.reflect.Field;
import java.util.Arrays;
import java.util.Map;

/**
 * Boundary cases that no calls reach: a job past its deadline, which admission rules out, and times near the greatest
 * int, which take too many ticks. Both are forced here through the private fields of the class.
 *
 * The document leaves those fields free, so a class that is built otherwise is not wrong: then nothing is held here,
 * and the test says so. Whoever renames one of them mends this test too.
 */
final class ForcedStateTest {
    private static final int LO = Checks.LO;
    private static final int HI = Checks.HI;
    /** A multiple of every period, less than half a million ticks below the greatest int. */
    private static final long FAR = 2979L * MixedCritKernel.UTIL_DEN;

    public static void main(String[] args) throws ReflectiveOperationException {
        if (!canForce()) {
            System.out.println("NOTHING HELD: the class keeps its state otherwise than this test knows");
            return;
        }
        missedAtTheDeadline();
        everyLateJobIsMissed();
        missComesBeforeTheReset();
        keysFarOut();
        ticksFarOut();
        Checks.finish();
    }

    private static boolean canForce() {
        Map<String, Class<?>> known = Map.of("now", long.class, "release", long[].class, "jobDemand", int[].class,
            "budgetLo", int[].class, "budgetHi", int[].class);
        long found = Arrays.stream(MixedCritKernel.class.getDeclaredFields())
            .filter(field -> field.getType() == known.get(field.getName())).count();
        return found == known.size();
    }

    private static void missedAtTheDeadline() throws ReflectiveOperationException {
        Checks.sentence("for each task j in index order with a pending job whose r + T <= t: `CNT_MISSED` of j"
            + " increases by 1 and the job is no longer pending");
        for (int crit = LO; crit <= HI; crit++) {
            for (int period = 1; period <= 16; period++) {
                MixedCritKernel kernel = Checks.kernel(1, new int[] {period, 1, 1, crit});
                kernel.admit();
                neverEnds(kernel, 0);
                for (int tick = 1; tick < period; tick++) {
                    kernel.run(1);
                }
                String name = "period " + period + ", crit " + crit;
                Checks.due("the tick before r + T, " + name, kernel.jobDone(0), period - 1);
                Checks.counters("the tick before r + T, " + name, kernel, 0, 1, 0, 0, 0, 0, 0);
                kernel.run(1);
                // The new job shows that the late one was gone before the release.
                Checks.counters("at r + T, " + name, kernel, 0, 2, 0, 0, 0, 0, 1);
                Checks.due("a new job, " + name, kernel.jobDone(0), 0);
                Checks.due("its key, " + name, kernel.jobDeadline(0), 2 * period);
            }
        }
    }

    private static void everyLateJobIsMissed() throws ReflectiveOperationException {
        MixedCritKernel kernel = Checks.kernel(3, new int[] {4, 1, 1, LO}, new int[] {8, 1, 1, LO},
            new int[] {4, 1, 1, LO});
        kernel.admit();
        for (int task = 0; task < 3; task++) {
            neverEnds(kernel, task);
        }
        kernel.run(4);
        Checks.counters("ran and late at 4", kernel, 0, 2, 0, 0, 0, 0, 1);
        Checks.counters("not late at 4", kernel, 1, 1, 0, 0, 0, 0, 0);
        Checks.counters("never ran and late at 4", kernel, 2, 2, 0, 0, 0, 0, 1);
        neverEnds(kernel, 0);
        neverEnds(kernel, 2);
        kernel.run(4);
        Checks.counters("late at 8", kernel, -1, 3 + 2 + 3, 0, 0, 0, 0, 5);
    }

    private static void missComesBeforeTheReset() throws ReflectiveOperationException {
        Checks.sentence("One tick at current time t consists of exactly these steps, in this order");
        MixedCritKernel kernel = Checks.kernel(2, new int[] {4, 1, 1, LO}, new int[] {4, 1, 2, HI});
        kernel.setExec(1, 2);
        kernel.admit();
        ints(kernel, "jobDemand")[1] = 32;
        ints(kernel, "budgetHi")[1] = 32;
        Checks.ranInTurn("up to the switch", kernel, 0, 1);
        Checks.due("mode", kernel.mode(), HI);
        Checks.ranInTurn("up to the deadline", kernel, 1, 1);
        Checks.counters("the HI job is missed", kernel, 1, 2, 0, 0, 0, 0, 1);
        Checks.due("then the mode is reset", kernel.mode(), LO);
        Checks.stats("then the mode is reset", kernel, 1, 1, 0, 4);
        Checks.counters("then the LO job is released", kernel, 0, 2, 1, 0, 0, 0, 0);
    }

    private static void keysFarOut() throws ReflectiveOperationException {
        Checks.sentence("of task i (period T, release r), a `long`:");
        // x = 21060 / 42119.
        MixedCritKernel kernel = Checks.kernel(8, new int[] {10, 1, 1, LO}, new int[] {15, 2, 2, LO},
            new int[] {13, 1, 1, LO}, new int[] {9, 2, 2, LO}, new int[] {7, 1, 2, HI}, new int[] {11, 1, 2, HI});
        kernel.admit();
        moveTo(kernel, FAR);
        Checks.due("LO", kernel.jobDeadline(0), (FAR + 10) * 42119);
        Checks.due("HI in LO mode", kernel.jobDeadline(5), FAR * 42119 + 21060 * 11);
        Checks.due("time", kernel.time(), FAR);
    }

    /** Past the greatest int too, nothing but the time, the keys and the releases differs. */
    private static void ticksFarOut() throws ReflectiveOperationException {
        Checks.sentence("performs `steps` ticks one after the other, each exactly as described in The tick");
        MixedCritKernel far = overrunningPair();
        MixedCritKernel near = overrunningPair();
        moveTo(far, FAR);
        for (int call = 0; call < 500; call++) {
            Checks.due("busy ticks of call " + call, far.run(1000 - call % 7), near.run(1000 - call % 7));
            Checks.due("mode after call " + call, far.mode(), near.mode());
            Checks.due("lastRan after call " + call, far.lastRan(), near.lastRan());
            for (int task = 0; task < 2; task++) {
                Checks.due("job of " + task + " after call " + call, far.jobDone(task), near.jobDone(task));
                long moved = near.jobDone(task) < 0 ? 0 : FAR * near.xDen();
                Checks.due("key of " + task, far.jobDeadline(task), near.jobDeadline(task) + moved);
                for (int kind = 0; kind < 6; kind++) {
                    Checks.due("counter after call " + call, far.counter(task, kind), near.counter(task, kind));
                }
            }
        }
        Checks.due("the runs pass the greatest int", FAR + near.time() > Integer.MAX_VALUE, true);
    }

    private static MixedCritKernel overrunningPair() {
        MixedCritKernel kernel = Checks.pair();
        kernel.setExec(0, 3);
        kernel.setExec(1, 7);
        kernel.admit();
        return kernel;
    }

    /** The pending job of the task outlasts every period. */
    private static void neverEnds(MixedCritKernel kernel, int task) throws ReflectiveOperationException {
        ints(kernel, "jobDemand")[task] = 1000;
        ints(kernel, "budgetLo")[task] = 1000;
        ints(kernel, "budgetHi")[task] = 1000;
    }

    /** As if the kernel, admitted just now, had been admitted so much later. */
    private static void moveTo(MixedCritKernel kernel, long time) throws ReflectiveOperationException {
        field("now").setLong(kernel, time);
        long[] releases = (long[]) field("release").get(kernel);
        for (int task = 0; task < kernel.taskCount(); task++) {
            releases[task] = time;
        }
    }

    private static int[] ints(MixedCritKernel kernel, String name) throws ReflectiveOperationException {
        return (int[]) field(name).get(kernel);
    }

    private static Field field(String name) throws ReflectiveOperationException {
        Field field = MixedCritKernel.class.getDeclaredField(name);
        field.setAccessible(true);
        return field;
    }
}
