import java.util.List;

/** Promise 3: setting the demand. */
final class SetExecTest {
    private static final int LO = Checks.LO;
    private static final int HI = Checks.HI;
    private static final int[] WRONG_DEMANDS = {
        Integer.MIN_VALUE, -32, -1, 0, 33, 34, 64, 257, 65537, Integer.MAX_VALUE};

    public static void main(String[] args) {
        wrongTask();
        wrongDemand();
        refusedDemandIsNotKept();
        everyDemandIsSet();
        beforeAndAfterAdmission();
        usedFromTheNextRelease();
        lastValueBeforeReleaseCounts();
        nothingElseChanges();
        outsideTheBudgets();
        Checks.finish();
    }

    private static void wrongTask() {
        Checks.sentence("`setExec(task, demand)` answers false, changing nothing, if `task` is not in"
            + " 0..`taskCount()`-1");
        for (int demand : new int[] {1, 5, 32}) {
            refused(Twins.ALL, -1, demand);
            Twins.refused(Twins.ALL, "setExec(taskCount(), " + demand + ")", 0,
                kernel -> kernel.setExec(kernel.taskCount(), demand) ? 1 : 0);
            for (int task : Checks.FAR_OUT) {
                refused(Twins.ALL, task, demand);
            }
        }
        MixedCritKernel kernel = new MixedCritKernel(8);
        for (int count = 0; count < 8; count++) {
            Checks.due("one past the last of " + count, kernel.setExec(count, 1), false);
            kernel.addTask(16, 2, 2, LO);
            Checks.due("the last of " + (count + 1), kernel.setExec(count, 2), true);
            Checks.due("the first of " + (count + 1), kernel.setExec(0, 2), true);
        }
        kernel.admit();
        Checks.due("eight jobs of demand 2", kernel.run(16), 16);
        Checks.due("completed", kernel.counter(-1, MixedCritKernel.CNT_COMPLETED), 8);
    }

    private static void wrongDemand() {
        Checks.sentence("or `demand` is not in 1..32");
        for (int demand : WRONG_DEMANDS) {
            refused(Twins.ALL, 0, demand);
            refused(Twins.ALL, 1, demand);
            refused(Twins.ALL, -1, demand);
        }
        for (int demand = -2; demand <= 40; demand++) {
            boolean good = demand >= 1 && demand <= 32;
            MixedCritKernel kernel = Checks.pair();
            Checks.due("setExec(1, " + demand + ")", kernel.setExec(1, demand), good);
            kernel.admit();
            Checks.due("admitted setExec(0, " + demand + ")", kernel.setExec(0, demand), good);
        }
    }

    private static void refusedDemandIsNotKept() {
        for (int demand : WRONG_DEMANDS) {
            MixedCritKernel kernel = Checks.kernel(1, new int[] {8, 3, 3, LO});
            kernel.setExec(0, 2);
            kernel.setExec(0, demand);
            kernel.admit();
            Checks.due("busy ticks after a refused " + demand, kernel.run(8), 2);
            Checks.due("completed after a refused " + demand, kernel.counter(0, MixedCritKernel.CNT_COMPLETED), 1);
        }
    }

    private static void everyDemandIsSet() {
        Checks.sentence("Otherwise it sets the demand e of that task to `demand` and answers true.");
        for (int demand = 1; demand <= 32; demand++) {
            MixedCritKernel kernel = Checks.kernel(2, new int[] {16, 1, 1, LO}, new int[] {16, 15, 15, LO});
            Checks.due("setExec(1, " + demand + ")", kernel.setExec(1, demand), true);
            kernel.admit();
            Checks.due("busy with demand " + demand, kernel.run(16), 1 + Math.min(demand, 15));
            int completed = demand <= 15 ? 1 : 0;
            Checks.counters("demand " + demand, kernel, 1, 2, completed, 1 - completed, 0, 0, 0);
            Checks.counters("the other task keeps its own", kernel, 0, 2, 1, 0, 0, 0, 0);
        }
    }

    private static void beforeAndAfterAdmission() {
        Checks.sentence("It is allowed both before and after admission.");
        for (int demand : new int[] {1, 32}) {
            for (Twins.Start start : Twins.ALL) {
                MixedCritKernel kernel = start.make().get();
                for (int task = 0; task < kernel.taskCount(); task++) {
                    Checks.due("setExec(" + task + ", " + demand + "), " + start.name(),
                        kernel.setExec(task, demand), true);
                }
            }
        }
    }

    private static void usedFromTheNextRelease() {
        Checks.sentence("The new value is used by jobs of that task released from then on; a pending job keeps the"
            + " demand it had at its release.");
        MixedCritKernel kernel = Checks.kernel(1, new int[] {4, 3, 3, LO});
        kernel.admit();
        Checks.due("set right after the release at 0", kernel.setExec(0, 1), true);
        Checks.due("the job of demand 3", kernel.run(3), 3);
        kernel.setExec(0, 2);
        Checks.due("set in the last tick before the release at 4", kernel.run(1), 0);
        kernel.setExec(0, 1);
        Checks.due("set right after the release at 4", kernel.run(4), 2);
        Checks.due("the job released at 8", kernel.run(1), 1);
        kernel.setExec(0, 32);
        Checks.due("no job is left until 12", kernel.run(3), 0);
        kernel.setExec(0, 1);
        Checks.due("the job released at 12 is over its budget", kernel.run(4), 3);
        Checks.counters("three completed, one aborted", kernel, 0, 5, 3, 1, 0, 0, 0);
    }

    private static void lastValueBeforeReleaseCounts() {
        MixedCritKernel kernel = Checks.kernel(1, new int[] {6, 4, 4, LO});
        kernel.setExec(0, 32);
        kernel.setExec(0, 1);
        kernel.setExec(0, 2);
        kernel.admit();
        Checks.due("the last demand set before admission", kernel.run(6), 2);
        Checks.due("it completed", kernel.counter(0, MixedCritKernel.CNT_COMPLETED), 1);
        Checks.due("the demand stays for the next jobs", kernel.run(12), 4);
    }

    private static void nothingElseChanges() {
        Checks.sentence("a pending job keeps the demand it had at its release. Nothing else changes.");
        for (Twins.Start start : Twins.ALL) {
            MixedCritKernel kernel = start.make().get();
            String before = Checks.state(kernel);
            for (int task = 0; task < kernel.taskCount(); task++) {
                kernel.setExec(task, 1);
                kernel.setExec(task, 32);
                Checks.same("setExec of task " + task + ", " + start.name(), Checks.state(kernel), before);
            }
        }
    }

    private static void outsideTheBudgets() {
        Checks.sentence("The value need not lie within the task's budgets.");
        for (int crit = LO; crit <= HI; crit++) {
            for (int demand : new int[] {1, 2, 3, 4, 5, 6, 31, 32}) {
                MixedCritKernel kernel = Checks.kernel(1, new int[] {8, 3, 5, crit});
                Checks.due("setExec(0, " + demand + ") of crit " + crit, kernel.setExec(0, demand), true);
                kernel.admit();
                int budget = crit == LO ? 3 : 5;
                Checks.due("busy with demand " + demand, kernel.run(8), Math.min(demand, budget));
            }
        }
    }

    private static void refused(List<Twins.Start> starts, int task, int demand) {
        String call = "setExec(" + task + ", " + demand + ")";
        Twins.refused(starts, call, 0, kernel -> kernel.setExec(task, demand) ? 1 : 0);
    }
}
