/** Promise 12: priority key of a pending job. */
final class JobDeadlineTest {
    public static void main(String[] args) {
        beforeAdmission();
        realDeadlinesUnderEdf();
        virtualDeadlines();
        keysAfterTheSwitch();
        keysBeyondInt();
        wrongTasks();
        Checks.finish();
    }

    private static void beforeAdmission() {
        MixedCritKernel kernel = new MixedCritKernel(8);
        Checks.due("no task", kernel.jobDeadline(0), -1);
        kernel.addTask(8, 3, 3, Checks.HI);
        Checks.due("no job yet", kernel.jobDeadline(0), -1);
    }

    private static void realDeadlinesUnderEdf() {
        MixedCritKernel kernel = new MixedCritKernel(8);
        kernel.addTask(5, 1, 1, Checks.LO);
        kernel.addTask(10, 2, 3, Checks.HI);
        kernel.admit();
        Checks.due("LO at 0", kernel.jobDeadline(0), 5);
        Checks.due("HI at 0", kernel.jobDeadline(1), 10);
        kernel.run(1);
        Checks.due("LO completed", kernel.jobDeadline(0), -1);
        Checks.due("HI still pending", kernel.jobDeadline(1), 10);
        kernel.run(9);
        Checks.due("LO at 10", kernel.jobDeadline(0), 15);
        Checks.due("HI at 10", kernel.jobDeadline(1), 20);
    }

    private static void virtualDeadlines() {
        MixedCritKernel kernel = threeTenths();
        long[] atZero = {160, 24, 40, 160, 48};
        long[] atSixteen = {320, 184, 200, 320, 208};
        for (int task = 0; task < 5; task++) {
            Checks.due("key at 0 of " + task, kernel.jobDeadline(task), atZero[task]);
        }
        kernel.run(16);
        for (int task = 0; task < 5; task++) {
            Checks.due("key at 16 of " + task, kernel.jobDeadline(task), atSixteen[task]);
        }
        String before = Checks.state(kernel);
        kernel.jobDeadline(1);
        Checks.same("jobDeadline changes nothing", Checks.state(kernel), before);
    }

    private static void keysAfterTheSwitch() {
        MixedCritKernel kernel = threeTenths();
        kernel.setExec(1, 6);
        kernel.run(16);
        Checks.due("before the switch", kernel.jobDeadline(1), 184);
        kernel.run(1);
        Checks.due("mode", kernel.mode(), MixedCritKernel.HI);
        Checks.due("the switching HI job", kernel.jobDeadline(1), 240);
        Checks.due("the other HI job", kernel.jobDeadline(4), 320);
        Checks.due("a dropped job", kernel.jobDeadline(0), -1);
    }

    private static void keysBeyondInt() {
        MixedCritKernel kernel = new MixedCritKernel(8);
        kernel.addTask(16, 3, 3, Checks.LO);
        kernel.addTask(13, 3, 3, Checks.LO);
        kernel.addTask(5, 1, 2, Checks.HI);
        kernel.addTask(11, 2, 2, Checks.LO);
        kernel.admit();
        long den = kernel.xDen();
        long num = kernel.xNum();
        Checks.due("xDen", den, 4575);
        for (int call = 0; call < 600; call++) {
            kernel.run(880);
            // 880 is a multiple of the periods 16, 5 and 11.
            long time = kernel.time();
            Checks.due("LO key at " + time, kernel.jobDeadline(0), (time + 16) * den);
            Checks.due("HI key at " + time, kernel.jobDeadline(2), time * den + num * 5);
        }
        Checks.due("keys are beyond int", kernel.jobDeadline(0) > Integer.MAX_VALUE, true);
    }

    private static void wrongTasks() {
        MixedCritKernel kernel = Checks.pair();
        kernel.admit();
        Checks.due("task -1", kernel.jobDeadline(-1), -1);
        Checks.due("task 2", kernel.jobDeadline(2), -1);
        Checks.due("task 7", kernel.jobDeadline(7), -1);
        for (int task : Checks.FAR_OUT) {
            Checks.due("task " + task, kernel.jobDeadline(task), -1);
        }
    }

    /** Five tasks, admitted with x = 3/10. */
    private static MixedCritKernel threeTenths() {
        MixedCritKernel kernel = new MixedCritKernel(5);
        kernel.addTask(16, 1, 1, Checks.LO);
        kernel.addTask(8, 1, 6, Checks.HI);
        kernel.addTask(4, 1, 1, Checks.LO);
        kernel.addTask(16, 1, 1, Checks.LO);
        kernel.addTask(16, 1, 1, Checks.HI);
        kernel.admit();
        return kernel;
    }
}
