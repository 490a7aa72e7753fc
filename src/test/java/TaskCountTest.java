/** Promise 4: counting tasks. */
final class TaskCountTest {
    public static void main(String[] args) {
        for (int capacity = 1; capacity <= 8; capacity++) {
            countsUpTo(capacity);
        }
        staysThroughTheRest();
        Checks.finish();
    }

    private static void countsUpTo(int capacity) {
        MixedCritKernel kernel = new MixedCritKernel(capacity);
        for (int added = 0; added < capacity; added++) {
            Checks.due("count of " + capacity, kernel.taskCount(), added);
            kernel.addTask(0, 1, 1, Checks.LO);
            Checks.due("count after a refused task", kernel.taskCount(), added);
            kernel.addTask(16, 1, 2, added % 2);
        }
        Checks.due("count when full", kernel.taskCount(), capacity);
        kernel.addTask(16, 1, 2, Checks.HI);
        Checks.due("count after one too many", kernel.taskCount(), capacity);
    }

    private static void staysThroughTheRest() {
        MixedCritKernel kernel = Checks.pair();
        kernel.setExec(1, 5);
        Checks.due("count after setExec", kernel.taskCount(), 2);
        kernel.admit();
        Checks.due("count after admission", kernel.taskCount(), 2);
        kernel.run(100);
        Checks.due("count after ticks", kernel.taskCount(), 2);
        String before = Checks.state(kernel);
        kernel.taskCount();
        Checks.same("taskCount changes nothing", Checks.state(kernel), before);
    }
}
