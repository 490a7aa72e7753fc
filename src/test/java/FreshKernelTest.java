/** Promise 1: a fresh kernel. */
final class FreshKernelTest {
    private static final int[] BELOW = {Integer.MIN_VALUE, Integer.MIN_VALUE + 1, -256, -8, -2, -1, 0};
    private static final int[] ABOVE = {9, 10, 16, 256, 257, 65536, Integer.MAX_VALUE - 1, Integer.MAX_VALUE};

    public static void main(String[] args) {
        freshAnswers();
        capacityBoundsTheTasks();
        belowOneBecomesOne();
        aboveEightBecomesEight();
        oneToEightAreKept();
        everyIntIsAccepted();
        objectsAreApart();
        Checks.finish();
    }

    private static void freshAnswers() {
        Checks.sentence("creates a kernel with no tasks, not admitted, time 0, mode LO, lastRan -1, xNum = xDen = 0,"
            + " and all system counters 0");
        int[] capacities = {Integer.MIN_VALUE, -1, 0, 1, 5, 8, 9, Integer.MAX_VALUE};
        for (int capacity : capacities) {
            freshAnswers("fresh(" + capacity + ") ", new MixedCritKernel(capacity));
            // An admitted kernel would refuse the task.
            Checks.due("not admitted: a task", new MixedCritKernel(capacity).addTask(16, 1, 1, Checks.LO), 0);
        }
    }

    private static void freshAnswers(String name, MixedCritKernel kernel) {
        Checks.due(name + "taskCount", kernel.taskCount(), 0);
        Checks.due(name + "time", kernel.time(), 0);
        Checks.due(name + "mode", kernel.mode(), Checks.LO);
        Checks.due(name + "lastRan", kernel.lastRan(), -1);
        Checks.due(name + "xNum", kernel.xNum(), 0);
        Checks.due(name + "xDen", kernel.xDen(), 0);
        Checks.stats(name, kernel, 0, 0, 0, 0);
        for (int kind = 0; kind < 3; kind++) {
            Checks.due(name + "utilNum " + kind, kernel.utilNum(kind), 0);
        }
        for (int task = 0; task < 8; task++) {
            Checks.due(name + "jobDone " + task, kernel.jobDone(task), -1);
            Checks.due(name + "counter " + task, kernel.counter(task, 0), -1);
        }
        Checks.due(name + "run is refused as not admitted", kernel.run(1), -1);
    }

    private static void capacityBoundsTheTasks() {
        Checks.sentence("The capacity, the most tasks that can ever be added, is `capacity` clamped into 1..8");
        for (int capacity = 1; capacity <= 8; capacity++) {
            MixedCritKernel kernel = new MixedCritKernel(capacity);
            for (int call = 0; call < 20; call++) {
                kernel.addTask(17, 1, 1, Checks.LO);
            }
            holdsRoomFor(capacity, capacity + " after refused tasks", kernel);
            int verdict = capacity == 1 ? MixedCritKernel.VERDICT_EDF : MixedCritKernel.VERDICT_REJECT;
            Checks.due(capacity + " full tasks", kernel.admit(), verdict);
            Checks.due("a task after the verdict", kernel.addTask(1, 1, 1, Checks.HI), -1);
        }
    }

    private static void belowOneBecomesOne() {
        Checks.sentence("any value below 1 becomes 1");
        for (int capacity : BELOW) {
            holdsRoomFor(1, "capacity " + capacity, new MixedCritKernel(capacity));
        }
    }

    private static void aboveEightBecomesEight() {
        Checks.sentence("any value above 8 becomes 8");
        for (int capacity : ABOVE) {
            holdsRoomFor(8, "capacity " + capacity, new MixedCritKernel(capacity));
        }
    }

    private static void oneToEightAreKept() {
        Checks.sentence("values in 1..8 are kept");
        for (int capacity = 1; capacity <= 8; capacity++) {
            holdsRoomFor(capacity, "capacity " + capacity, new MixedCritKernel(capacity));
        }
    }

    private static void everyIntIsAccepted() {
        Checks.sentence("Every int argument is accepted; the constructor never fails.");
        for (int shift = 0; shift < 32; shift++) {
            for (int near = -1; near <= 1; near++) {
                int capacity = (1 << shift) + near;
                int room = capacity < 1 ? 1 : capacity > 8 ? 8 : capacity;
                holdsRoomFor(room, "capacity " + capacity, new MixedCritKernel(capacity));
            }
        }
    }

    private static void holdsRoomFor(int room, String name, MixedCritKernel kernel) {
        for (int task = 0; task < 10; task++) {
            Checks.due(name + " add " + task, kernel.addTask(1, 1, 1, task % 2), task < room ? task : -1);
        }
        Checks.due(name + " taskCount", kernel.taskCount(), room);
    }

    private static void objectsAreApart() {
        Checks.sentence("`new MixedCritKernel(capacity)` creates a kernel");
        MixedCritKernel busy = Checks.pair();
        MixedCritKernel fresh = new MixedCritKernel(8);
        busy.admit();
        busy.run(20);
        freshAnswers("made before a busy one ", fresh);
        freshAnswers("made after a busy one ", new MixedCritKernel(8));
    }
}
