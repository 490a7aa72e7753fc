/** Promise 1: a fresh kernel. */
final class FreshKernelTest {
    public static void main(String[] args) {
        freshAnswers();
        clampsCapacity();
        objectsAreApart();
        Checks.finish();
    }

    private static void freshAnswers() {
        int[] capacities = {Integer.MIN_VALUE, -1, 0, 1, 5, 8, 9, Integer.MAX_VALUE};
        for (int capacity : capacities) {
            MixedCritKernel kernel = new MixedCritKernel(capacity);
            String name = "fresh(" + capacity + ") ";
            Checks.due(name + "taskCount", kernel.taskCount(), 0);
            Checks.due(name + "time", kernel.time(), 0);
            Checks.due(name + "mode", kernel.mode(), Checks.LO);
            Checks.due(name + "lastRan", kernel.lastRan(), -1);
            Checks.due(name + "xNum", kernel.xNum(), 0);
            Checks.due(name + "xDen", kernel.xDen(), 0);
            for (int kind = 0; kind < 4; kind++) {
                Checks.due(name + "stat " + kind, kernel.stat(kind), 0);
            }
            Checks.due(name + "run is refused as not admitted", kernel.run(1), -1);
        }
    }

    private static void clampsCapacity() {
        int[][] capacityAndRoom = {
            {Integer.MIN_VALUE, 1}, {-8, 1}, {-1, 1}, {0, 1}, {1, 1}, {2, 2}, {3, 3}, {4, 4}, {5, 5},
            {6, 6}, {7, 7}, {8, 8}, {9, 8}, {16, 8}, {Integer.MAX_VALUE, 8}};
        for (int[] pair : capacityAndRoom) {
            MixedCritKernel kernel = new MixedCritKernel(pair[0]);
            for (int task = 0; task < 10; task++) {
                int want = task < pair[1] ? task : -1;
                Checks.due("capacity " + pair[0] + " add " + task, kernel.addTask(16, 1, 1, Checks.LO), want);
            }
            Checks.due("capacity " + pair[0] + " taskCount", kernel.taskCount(), pair[1]);
        }
    }

    private static void objectsAreApart() {
        MixedCritKernel busy = Checks.pair();
        MixedCritKernel fresh = new MixedCritKernel(8);
        busy.admit();
        busy.run(20);
        Checks.same("a kernel beside a busy one", Checks.state(fresh), Checks.state(new MixedCritKernel(8)));
    }
}
