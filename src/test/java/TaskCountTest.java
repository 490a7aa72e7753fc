/** Promise 4: counting tasks. */
final class TaskCountTest {
    public static void main(String[] args) {
        countsUpToTheCapacity();
        staysThroughTheRest();
        changesNothing();
        Checks.finish();
    }

    private static void countsUpToTheCapacity() {
        Checks.sentence("`taskCount()` answers the number of tasks added so far (0..capacity).");
        for (int capacity = -1; capacity <= 10; capacity++) {
            countsUpTo(Math.max(1, Math.min(8, capacity)), new MixedCritKernel(capacity));
        }
    }

    private static void countsUpTo(int most, MixedCritKernel kernel) {
        for (int added = 0; added < most; added++) {
            Checks.due("count of " + most, kernel.taskCount(), added);
            kernel.addTask(0, 1, 1, Checks.LO);
            Checks.due("count after a refused task", kernel.taskCount(), added);
            kernel.addTask(16, 1, 2, added % 2);
        }
        Checks.due("count when full", kernel.taskCount(), most);
        kernel.addTask(16, 1, 2, Checks.HI);
        Checks.due("count after one too many", kernel.taskCount(), most);
    }

    private static void staysThroughTheRest() {
        MixedCritKernel kernel = Checks.pair();
        kernel.setExec(1, 5);
        Checks.due("count after setExec", kernel.taskCount(), 2);
        kernel.admit();
        Checks.due("count after admission", kernel.taskCount(), 2);
        kernel.run(100);
        Checks.due("count after ticks", kernel.taskCount(), 2);
    }

    private static void changesNothing() {
        Checks.sentence("answers the number of tasks added so far (0..capacity). It changes nothing.");
        Twins.unchanged(Twins.ALL, "taskCount()", MixedCritKernel::taskCount);
    }
}
