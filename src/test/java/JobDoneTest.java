/** Promise 11: progress of a pending job. */
final class JobDoneTest {
    public static void main(String[] args) {
        growsWithTicks();
        upToTheBudget();
        wrongTask();
        noPendingJob();
        changesNothing();
        Checks.finish();
    }

    private static void growsWithTicks() {
        Checks.sentence("`jobDone(task)` answers the executed amount of the pending job of `task`.");
        MixedCritKernel kernel = Checks.kernel(8, new int[] {5, 3, 3, Checks.LO}, new int[] {10, 2, 3, Checks.HI});
        kernel.setExec(1, 3);
        kernel.admit();
        int[][] done = {{0, 0}, {1, 0}, {2, 0}, {-1, 0}, {-1, 1}, {-1, 2}, {-1, -1}, {-1, -1}};
        for (int time = 0; time < done.length; time++) {
            Checks.due("task 0 at " + time, kernel.jobDone(0), done[time][0]);
            Checks.due("task 1 at " + time, kernel.jobDone(1), done[time][1]);
            kernel.run(1);
        }
        kernel.run(2);
        Checks.due("a new job of task 0", kernel.jobDone(0), 0);
        Checks.due("a new job of task 1", kernel.jobDone(1), 0);
    }

    private static void upToTheBudget() {
        for (int crit = 0; crit <= 1; crit++) {
            MixedCritKernel kernel = Checks.kernel(1, new int[] {16, 16, 16, crit});
            kernel.setExec(0, 32);
            kernel.admit();
            for (int time = 0; time < 48; time++) {
                Checks.due("a job as long as its period, at " + time, kernel.jobDone(0), time % 16);
                kernel.run(1);
            }
        }
    }

    private static void wrongTask() {
        Checks.sentence("It answers -1 if `task` is not in 0..`taskCount()`-1");
        for (int task : Checks.FAR_OUT) {
            Twins.refused(Twins.ALL, "jobDone(" + task + ")", -1, kernel -> kernel.jobDone(task));
        }
        Twins.refused(Twins.ALL, "jobDone(-1)", -1, kernel -> kernel.jobDone(-1));
        Twins.refused(Twins.ALL, "jobDone(taskCount())", -1, kernel -> kernel.jobDone(kernel.taskCount()));
        Twins.refused(Twins.EMPTY, "jobDone(0) of no tasks", -1, kernel -> kernel.jobDone(0));
        MixedCritKernel kernel = Checks.pair();
        kernel.admit();
        Checks.due("the first task", kernel.jobDone(0), 0);
        Checks.due("the last task", kernel.jobDone(1), 0);
        for (int task = 2; task < 8; task++) {
            Checks.due("a place without a task, " + task, kernel.jobDone(task), -1);
        }
    }

    private static void noPendingJob() {
        Checks.sentence("or the task has no pending job");
        Twins.refused(Twins.NOT_ADMITTED, "jobDone(0) before admission", -1, kernel -> kernel.jobDone(0));
        MixedCritKernel kernel = Checks.pair();
        kernel.setExec(1, 9);
        kernel.admit();
        kernel.run(2);
        Checks.due("completed", kernel.jobDone(0), -1);
        kernel.run(2);
        Checks.due("skipped", kernel.jobDone(0), -1);
        kernel.run(3);
        Checks.due("aborted", kernel.jobDone(1), -1);
        MixedCritKernel dropping = Checks.kernel(2, new int[] {16, 1, 1, Checks.LO}, new int[] {8, 1, 2, Checks.HI});
        dropping.setExec(1, 2);
        dropping.admit();
        Checks.due("waiting", dropping.jobDone(0), 0);
        dropping.run(1);
        Checks.due("dropped", dropping.jobDone(0), -1);
    }

    private static void changesNothing() {
        Checks.sentence("or the task has no pending job. It changes nothing.");
        for (int task = -1; task <= 8; task++) {
            int asked = task;
            Twins.unchanged(Twins.ALL, "jobDone(" + task + ")", kernel -> kernel.jobDone(asked));
        }
    }
}
