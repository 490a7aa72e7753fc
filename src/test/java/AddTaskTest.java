/** Promise 2: adding a task. */
final class AddTaskTest {
    private static final int LO = Checks.LO;
    private static final int HI = Checks.HI;

    public static void main(String[] args) {
        everyCombination();
        farArguments();
        loIgnoresHiBudget();
        loBudgetEndsLoJobs();
        refusedWhenFull();
        refusedAfterAdmission();
        allowedAfterReject();
        newTaskIsFresh();
        Checks.finish();
    }

    private static void everyCombination() {
        for (int period = -1; period <= 18; period++) {
            for (int cLo = -1; cLo <= 18; cLo++) {
                for (int cHi = -1; cHi <= 18; cHi++) {
                    for (int crit = -1; crit <= 2; crit++) {
                        one(period, cLo, cHi, crit);
                    }
                }
            }
        }
    }

    private static void farArguments() {
        int[] far = {Integer.MIN_VALUE, Integer.MIN_VALUE + 1, -17, 17, 33, 65537, Integer.MAX_VALUE};
        for (int value : far) {
            for (int crit = 0; crit <= 1; crit++) {
                one(value, 1, 1, crit);
                one(4, value, 4, crit);
                one(4, 1, value, crit);
                one(value, value, value, crit);
            }
            one(4, 1, 1, value);
        }
    }

    private static void one(int period, int cLo, int cHi, int crit) {
        boolean good = (crit == LO || crit == HI) && period >= 1 && period <= 16 && cLo >= 1 && cLo <= period
            && (crit == LO || cHi >= cLo && cHi <= period);
        String call = "addTask(" + period + ", " + cLo + ", " + cHi + ", " + crit + ")";
        MixedCritKernel kernel = new MixedCritKernel(2);
        String before = Checks.state(kernel);
        Checks.due(call, kernel.addTask(period, cLo, cHi, crit), good ? 0 : -1);
        if (!good) {
            Checks.same(call + " changes nothing", Checks.state(kernel), before);
            return;
        }
        long unit = 720720 / period;
        Checks.due(call + " taskCount", kernel.taskCount(), 1);
        Checks.due(call + " ULL", kernel.utilNum(0), crit == LO ? cLo * unit : 0);
        Checks.due(call + " UHL", kernel.utilNum(1), crit == HI ? cLo * unit : 0);
        Checks.due(call + " UHH", kernel.utilNum(2), crit == HI ? cHi * unit : 0);
    }

    private static void loIgnoresHiBudget() {
        int[] values = {Integer.MIN_VALUE, -1, 0, 1, 2, 3, 17, Integer.MAX_VALUE};
        MixedCritKernel kernel = new MixedCritKernel(8);
        for (int i = 0; i < values.length; i++) {
            Checks.due("LO with cHi " + values[i], kernel.addTask(16, 2, values[i], LO), i);
        }
        Checks.due("ULL of eight", kernel.utilNum(0), 720720);
        Checks.due("UHH of eight", kernel.utilNum(2), 0);
        Checks.due("admit", kernel.admit(), MixedCritKernel.VERDICT_EDF);
    }

    private static void loBudgetEndsLoJobs() {
        int[] ignored = {Integer.MIN_VALUE, 0, 1, 3, 5};
        for (int cHi : ignored) {
            MixedCritKernel kernel = new MixedCritKernel(1);
            kernel.addTask(5, 2, cHi, LO);
            kernel.setExec(0, 4);
            kernel.admit();
            Checks.due("LO job over its budget, cHi " + cHi, kernel.run(5), 2);
            Checks.due("aborted, cHi " + cHi, kernel.counter(0, MixedCritKernel.CNT_ABORTED), 1);
            Checks.due("no switch, cHi " + cHi, kernel.stat(MixedCritKernel.STAT_SWITCHES), 0);
        }
    }

    private static void refusedWhenFull() {
        MixedCritKernel kernel = new MixedCritKernel(2);
        kernel.addTask(4, 1, 2, HI);
        kernel.addTask(4, 1, 1, LO);
        String before = Checks.state(kernel);
        Checks.due("add to a full kernel, LO", kernel.addTask(4, 1, 1, LO), -1);
        Checks.due("add to a full kernel, HI", kernel.addTask(4, 1, 1, HI), -1);
        Checks.same("a full kernel stays", Checks.state(kernel), before);
    }

    private static void refusedAfterAdmission() {
        MixedCritKernel kernel = Checks.pair();
        kernel.admit();
        String before = Checks.state(kernel);
        Checks.due("add after admission, LO", kernel.addTask(16, 1, 1, LO), -1);
        Checks.due("add after admission, HI", kernel.addTask(16, 1, 1, HI), -1);
        Checks.same("an admitted kernel stays", Checks.state(kernel), before);
        kernel.run(7);
        before = Checks.state(kernel);
        Checks.due("add after ticks", kernel.addTask(16, 1, 1, LO), -1);
        Checks.same("a running kernel stays", Checks.state(kernel), before);
    }

    private static void allowedAfterReject() {
        MixedCritKernel kernel = new MixedCritKernel(8);
        kernel.addTask(2, 2, 2, LO);
        kernel.addTask(16, 1, 1, HI);
        Checks.due("too much", kernel.admit(), MixedCritKernel.VERDICT_REJECT);
        Checks.due("add after a reject", kernel.addTask(16, 1, 1, LO), 2);
        Checks.due("taskCount after a reject", kernel.taskCount(), 3);
    }

    private static void newTaskIsFresh() {
        MixedCritKernel kernel = new MixedCritKernel(3);
        kernel.addTask(6, 3, 3, LO);
        kernel.setExec(0, 1);
        Checks.due("second index", kernel.addTask(6, 2, 3, HI), 1);
        for (int kind = 0; kind < 6; kind++) {
            Checks.due("new task's counter " + kind, kernel.counter(1, kind), 0);
        }
        Checks.due("new task has no job", kernel.jobDone(1), -1);
        Checks.due("new task has no deadline", kernel.jobDeadline(1), -1);
        Checks.due("time stays", kernel.time(), 0);
        Checks.due("lastRan stays", kernel.lastRan(), -1);
        Checks.due("xNum stays", kernel.xNum(), 0);
        Checks.due("xDen stays", kernel.xDen(), 0);
        kernel.admit();
        Checks.due("demands are 1 and cLo = 2", kernel.run(6), 3);
        Checks.due("both completed", kernel.counter(-1, MixedCritKernel.CNT_COMPLETED), 2);
    }
}
