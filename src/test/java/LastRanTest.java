/** Promise 10: the last job run. */
final class LastRanTest {
    public static void main(String[] args) {
        noTickYet();
        mostRecentTick();
        lastIndex();
        idleTick();
        changesNothing();
        Checks.finish();
    }

    private static void noTickYet() {
        Checks.sentence("and -1 if that tick was idle or no tick has been done yet");
        for (Twins.Start start : Twins.NOT_ADMITTED) {
            MixedCritKernel kernel = start.make().get();
            Checks.due("lastRan, " + start.name(), kernel.lastRan(), -1);
            kernel.run(1);
            Checks.due("lastRan after a refused run, " + start.name(), kernel.lastRan(), -1);
            kernel.admit();
            Checks.due("lastRan after admit, " + start.name(), kernel.lastRan(), -1);
        }
    }

    private static void mostRecentTick() {
        Checks.sentence("`lastRan()` answers the index of the task that executed in the most recent tick");
        MixedCritKernel kernel = twoTasks();
        Checks.ranInTurn("two tasks", kernel, 1, 1, 0, -1, 1, 1, -1, -1, 1);
        kernel.run(0);
        kernel.run(1001);
        kernel.admit();
        kernel.setExec(0, 1);
        kernel.addTask(16, 1, 1, Checks.LO);
        Checks.due("after calls without a tick", kernel.lastRan(), 1);
        kernel.run(2);
        Checks.due("the last of two ticks", kernel.lastRan(), 0);
        kernel.run(5);
        Checks.due("the last of five ticks, idle", kernel.lastRan(), -1);
    }

    private static void idleTick() {
        Checks.sentence("-1 if that tick was idle");
        MixedCritKernel kernel = Checks.kernel(1, new int[] {3, 1, 1, Checks.LO});
        kernel.admit();
        for (int round = 0; round < 5; round++) {
            Checks.ranInTurn("one tick in three", kernel, 0, -1, -1);
        }
        Checks.due("a job waits, but the last tick was idle", kernel.jobDone(0), 0);
        Checks.due("lastRan", kernel.lastRan(), -1);
    }

    private static void lastIndex() {
        MixedCritKernel kernel = new MixedCritKernel(8);
        for (int task = 0; task < 8; task++) {
            kernel.addTask(16 - task, 1, 1, Checks.LO);
        }
        kernel.admit();
        Checks.ranInTurn("eight tasks, the shortest period last", kernel, 7, 6, 5, 4, 3, 2, 1, 0, -1, 7);
    }

    private static void changesNothing() {
        Checks.sentence("no tick has been done yet. It changes nothing.");
        Twins.unchanged(Twins.ALL, "lastRan()", MixedCritKernel::lastRan);
    }

    /** A LO task (8, 1) and a HI task (4, 2, 2), admitted. */
    private static MixedCritKernel twoTasks() {
        MixedCritKernel kernel = Checks.kernel(8, new int[] {8, 1, 1, Checks.LO}, new int[] {4, 2, 2, Checks.HI});
        kernel.admit();
        return kernel;
    }
}
