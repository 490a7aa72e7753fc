/** Promise 3: setting the demand. */
final class SetExecTest {
    public static void main(String[] args) {
        demandRange();
        taskRange();
        pendingJobKeepsItsDemand();
        lastValueBeforeReleaseCounts();
        demandsAreApart();
        Checks.finish();
    }

    private static void demandRange() {
        for (int demand = -2; demand <= 40; demand++) {
            MixedCritKernel kernel = Checks.pair();
            String before = Checks.state(kernel);
            Checks.due("setExec(1, " + demand + ")", kernel.setExec(1, demand), demand >= 1 && demand <= 32);
            Checks.same("setExec(1, " + demand + ") shows nothing", Checks.state(kernel), before);
            kernel.admit();
            before = Checks.state(kernel);
            Checks.due("admitted setExec(0, " + demand + ")", kernel.setExec(0, demand), demand >= 1 && demand <= 32);
            Checks.same("admitted setExec(0, " + demand + ") shows nothing", Checks.state(kernel), before);
        }
        int[] far = {Integer.MIN_VALUE, -33, 256, Integer.MAX_VALUE};
        for (int demand : far) {
            Checks.due("setExec(0, " + demand + ")", Checks.pair().setExec(0, demand), false);
        }
        refusedDemandIsNotKept();
    }

    private static void refusedDemandIsNotKept() {
        int[] refused = {Integer.MIN_VALUE, 0, 33, Integer.MAX_VALUE};
        for (int demand : refused) {
            MixedCritKernel kernel = new MixedCritKernel(1);
            kernel.addTask(8, 3, 3, Checks.LO);
            kernel.setExec(0, 2);
            kernel.setExec(0, demand);
            kernel.admit();
            Checks.due("busy ticks after a refused " + demand, kernel.run(8), 2);
            Checks.due("completed after a refused " + demand, kernel.counter(0, MixedCritKernel.CNT_COMPLETED), 1);
        }
    }

    private static void taskRange() {
        MixedCritKernel none = new MixedCritKernel(8);
        Checks.due("no task yet", none.setExec(0, 1), false);
        MixedCritKernel kernel = new MixedCritKernel(8);
        kernel.addTask(8, 2, 2, Checks.LO);
        kernel.addTask(8, 2, 2, Checks.LO);
        Checks.due("first task", kernel.setExec(0, 1), true);
        Checks.due("last task", kernel.setExec(1, 1), true);
        Checks.due("one past the last", kernel.setExec(2, 1), false);
        Checks.due("task -1", kernel.setExec(-1, 2), false);
        for (int task : Checks.FAR_OUT) {
            Checks.due("task " + task, kernel.setExec(task, 2), false);
        }
        kernel.addTask(8, 2, 2, Checks.LO);
        kernel.admit();
        Checks.due("demands 1, 1 and the later task's cLo", kernel.run(8), 4);
    }

    private static void pendingJobKeepsItsDemand() {
        MixedCritKernel kernel = new MixedCritKernel(1);
        kernel.addTask(4, 3, 3, Checks.LO);
        kernel.admit();
        kernel.run(1);
        Checks.due("set while pending", kernel.setExec(0, 1), true);
        Checks.due("pending job runs its 2 ticks more", kernel.run(3), 2);
        Checks.due("next job has demand 1", kernel.run(4), 1);
        Checks.due("both completed", kernel.counter(0, MixedCritKernel.CNT_COMPLETED), 2);
        Checks.due("a demand over the budgets", kernel.setExec(0, 32), true);
        Checks.due("the job released before that", kernel.run(4), 1);
        Checks.due("the job over its budget", kernel.run(4), 3);
        Checks.due("is aborted", kernel.counter(0, MixedCritKernel.CNT_ABORTED), 1);
    }

    private static void lastValueBeforeReleaseCounts() {
        MixedCritKernel kernel = new MixedCritKernel(1);
        kernel.addTask(6, 4, 4, Checks.LO);
        kernel.setExec(0, 32);
        kernel.setExec(0, 1);
        kernel.setExec(0, 2);
        kernel.admit();
        Checks.due("the last demand set before admission", kernel.run(6), 2);
        Checks.due("it completed", kernel.counter(0, MixedCritKernel.CNT_COMPLETED), 1);
        Checks.due("the demand stays for the next jobs", kernel.run(12), 4);
    }

    private static void demandsAreApart() {
        MixedCritKernel kernel = new MixedCritKernel(2);
        kernel.addTask(8, 4, 4, Checks.LO);
        kernel.addTask(8, 4, 4, Checks.LO);
        kernel.setExec(1, 1);
        kernel.admit();
        Checks.due("4 and 1", kernel.run(8), 5);
    }
}
