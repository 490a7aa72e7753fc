/** Promise 11: progress of a pending job. */
final class JobDoneTest {
    public static void main(String[] args) {
        beforeAdmission();
        growsWithTicks();
        wrongTasks();
        Checks.finish();
    }

    private static void beforeAdmission() {
        MixedCritKernel kernel = new MixedCritKernel(8);
        Checks.due("no task", kernel.jobDone(0), -1);
        kernel.addTask(8, 3, 3, Checks.LO);
        Checks.due("no job yet", kernel.jobDone(0), -1);
    }

    private static void growsWithTicks() {
        MixedCritKernel kernel = new MixedCritKernel(8);
        kernel.addTask(5, 3, 3, Checks.LO);
        kernel.addTask(10, 2, 3, Checks.HI);
        kernel.setExec(1, 3);
        kernel.admit();
        int[][] done = {{0, 0}, {1, 0}, {2, 0}, {-1, 0}, {-1, 1}, {-1, 2}, {-1, -1}, {-1, -1}};
        for (int time = 0; time < done.length; time++) {
            Checks.due("task 0 at " + time, kernel.jobDone(0), done[time][0]);
            Checks.due("task 1 at " + time, kernel.jobDone(1), done[time][1]);
            String before = Checks.state(kernel);
            kernel.jobDone(0);
            Checks.same("jobDone changes nothing", Checks.state(kernel), before);
            kernel.run(1);
        }
        kernel.run(2);
        Checks.due("a new job of task 0", kernel.jobDone(0), 0);
        Checks.due("a new job of task 1", kernel.jobDone(1), 0);
    }

    private static void wrongTasks() {
        MixedCritKernel kernel = Checks.pair();
        kernel.admit();
        Checks.due("task -1", kernel.jobDone(-1), -1);
        Checks.due("task 2", kernel.jobDone(2), -1);
        Checks.due("task 7", kernel.jobDone(7), -1);
        for (int task : Checks.FAR_OUT) {
            Checks.due("task " + task, kernel.jobDone(task), -1);
        }
    }
}
