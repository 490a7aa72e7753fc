/** Promise 12: priority key of a pending job. */
final class JobDeadlineTest {
    public static void main(String[] args) {
        currentModeAndFactor();
        realDeadlinesUnderEdf();
        virtualDeadlines();
        keysBeyondInt();
        wrongTask();
        noPendingJob();
        changesNothing();
        Checks.finish();
    }

    private static void currentModeAndFactor() {
        Checks.sentence("`jobDeadline(task)` answers the priority key of the pending job of `task`, computed in the"
            + " current mode with the current xNum and xDen.");
        MixedCritKernel kernel = threeTenths();
        kernel.setExec(1, 6);
        kernel.run(16);
        Checks.due("before the switch", kernel.jobDeadline(1), 184);
        kernel.run(1);
        Checks.due("mode", kernel.mode(), MixedCritKernel.HI);
        Checks.due("the switching HI job", kernel.jobDeadline(1), 240);
        Checks.due("the other HI job", kernel.jobDeadline(4), 320);
        Checks.due("a dropped job", kernel.jobDeadline(0), -1);
        kernel.run(6);
        Checks.due("mode after the reset", kernel.mode(), MixedCritKernel.LO);
        kernel.run(1);
        Checks.due("a HI job released at 24, in LO mode", kernel.jobDeadline(1), 264);
        Checks.due("a LO job released at 24", kernel.jobDeadline(2), 280);
    }

    private static void realDeadlinesUnderEdf() {
        MixedCritKernel kernel = Checks.kernel(8, new int[] {5, 1, 1, Checks.LO}, new int[] {10, 2, 3, Checks.HI});
        kernel.admit();
        Checks.due("LO at 0", kernel.jobDeadline(0), 5);
        Checks.due("HI at 0", kernel.jobDeadline(1), 10);
        kernel.run(1);
        Checks.due("LO completed", kernel.jobDeadline(0), -1);
        Checks.due("HI still pending", kernel.jobDeadline(1), 10);
        kernel.run(9);
        Checks.due("LO at 10", kernel.jobDeadline(0), 15);
        Checks.due("HI at 10", kernel.jobDeadline(1), 20);
    }

    private static void virtualDeadlines() {
        MixedCritKernel kernel = threeTenths();
        long[] atZero = {160, 24, 40, 160, 48};
        long[] atSixteen = {320, 184, 200, 320, 208};
        for (int task = 0; task < 5; task++) {
            Checks.due("key at 0 of " + task, kernel.jobDeadline(task), atZero[task]);
        }
        kernel.run(16);
        for (int task = 0; task < 5; task++) {
            Checks.due("key at 16 of " + task, kernel.jobDeadline(task), atSixteen[task]);
        }
    }

    private static void keysBeyondInt() {
        Checks.sentence("of task i (period T, release r), a `long`:");
        MixedCritKernel kernel = Checks.kernel(8, new int[] {16, 3, 3, Checks.LO}, new int[] {13, 3, 3, Checks.LO},
            new int[] {5, 1, 2, Checks.HI}, new int[] {11, 2, 2, Checks.LO});
        kernel.admit();
        long den = kernel.xDen();
        long num = kernel.xNum();
        Checks.due("xDen", den, 4575);
        for (int call = 0; call < 1200; call++) {
            kernel.run(880);
            // 880 is a multiple of the periods 16, 5 and 11.
            long time = kernel.time();
            Checks.due("LO key at " + time, kernel.jobDeadline(0), (time + 16) * den);
            Checks.due("HI key at " + time, kernel.jobDeadline(2), time * den + num * 5);
        }
        Checks.due("keys are beyond int", kernel.jobDeadline(0) > 2L * Integer.MAX_VALUE, true);
    }

    private static void wrongTask() {
        Checks.sentence("It answers -1 if `task` is not in 0..`taskCount()`-1");
        for (int task : Checks.FAR_OUT) {
            Twins.refused(Twins.ALL, "jobDeadline(" + task + ")", -1, kernel -> kernel.jobDeadline(task));
        }
        Twins.refused(Twins.ALL, "jobDeadline(-1)", -1, kernel -> kernel.jobDeadline(-1));
        Twins.refused(Twins.ALL, "jobDeadline(taskCount())", -1, kernel -> kernel.jobDeadline(kernel.taskCount()));
        Twins.refused(Twins.EMPTY, "jobDeadline(0) of no tasks", -1, kernel -> kernel.jobDeadline(0));
        MixedCritKernel kernel = Checks.pair();
        kernel.admit();
        Checks.due("the first task", kernel.jobDeadline(0), 8);
        Checks.due("the last task", kernel.jobDeadline(1), 8);
        for (int task = 2; task < 8; task++) {
            Checks.due("a place without a task, " + task, kernel.jobDeadline(task), -1);
        }
    }

    private static void noPendingJob() {
        Checks.sentence("or the task has no pending job");
        Twins.refused(Twins.NOT_ADMITTED, "jobDeadline(0) before admission", -1, kernel -> kernel.jobDeadline(0));
        MixedCritKernel kernel = Checks.pair();
        kernel.setExec(1, 9);
        kernel.admit();
        kernel.run(2);
        Checks.due("completed", kernel.jobDeadline(0), -1);
        kernel.run(2);
        Checks.due("skipped", kernel.jobDeadline(0), -1);
        kernel.run(3);
        Checks.due("aborted", kernel.jobDeadline(1), -1);
        MixedCritKernel dropping = Checks.kernel(2, new int[] {16, 1, 1, Checks.LO}, new int[] {8, 1, 2, Checks.HI});
        dropping.setExec(1, 2);
        dropping.admit();
        Checks.due("waiting", dropping.jobDeadline(0), 16);
        dropping.run(1);
        Checks.due("dropped", dropping.jobDeadline(0), -1);
    }

    private static void changesNothing() {
        Checks.sentence("or the task has no pending job. It changes nothing.");
        for (int task = -1; task <= 8; task++) {
            int asked = task;
            Twins.unchanged(Twins.ALL, "jobDeadline(" + task + ")", kernel -> kernel.jobDeadline(asked));
        }
    }

    /** Five tasks, admitted with x = 3/10. */
    private static MixedCritKernel threeTenths() {
        MixedCritKernel kernel = Checks.kernel(5, new int[] {16, 1, 1, Checks.LO}, new int[] {8, 1, 6, Checks.HI},
            new int[] {4, 1, 1, Checks.LO}, new int[] {16, 1, 1, Checks.LO}, new int[] {16, 1, 1, Checks.HI});
        kernel.admit();
        return kernel;
    }
}
