/** Promise 2: adding a task. */
final class AddTaskTest {
    private static final int LO = Checks.LO;
    private static final int HI = Checks.HI;

    public static void main(String[] args) {
        refusedAfterAdmission();
        refusedWhenFull();
        refusedForAnotherCrit();
        refusedForAnotherPeriod();
        refusedForAnotherLoBudget();
        refusedForAnotherHiBudget();
        refusedForManyReasons();
        loIgnoresHiBudget();
        indexIsTheCountBefore();
        newTaskIsFresh();
        nothingElseChanges();
        allowedAfterReject();
        everyCombination();
        farArguments();
        Checks.finish();
    }

    private static void refusedAfterAdmission() {
        Checks.sentence("1. the kernel is already admitted;");
        refused(Twins.ADMITTED, 16, 1, 1, LO);
        refused(Twins.ADMITTED, 16, 1, 16, HI);
        MixedCritKernel kernel = Checks.kernel(8, new int[] {16, 1, 1, LO});
        Checks.due("room before admission", kernel.addTask(16, 1, 1, LO), 1);
        kernel.admit();
        Checks.due("none after it", kernel.addTask(16, 1, 1, LO), -1);
    }

    private static void refusedWhenFull() {
        Checks.sentence("2. `taskCount()` equals the capacity;");
        refused(Twins.FULL, 16, 1, 1, LO);
        refused(Twins.FULL, 16, 1, 16, HI);
        for (int capacity = 1; capacity <= 8; capacity++) {
            MixedCritKernel kernel = new MixedCritKernel(capacity);
            for (int task = 0; task < capacity - 1; task++) {
                kernel.addTask(16, 1, 1, LO);
            }
            Checks.due("the last place of " + capacity, kernel.addTask(16, 1, 2, HI), capacity - 1);
            Checks.due("one more than " + capacity, kernel.addTask(16, 1, 2, HI), -1);
        }
    }

    private static void refusedForAnotherCrit() {
        Checks.sentence("3. `crit` is neither `LO` nor `HI`;");
        int[] others = {Integer.MIN_VALUE, -2, -1, 2, 3, 256, 65536, Integer.MAX_VALUE};
        for (int crit : others) {
            refused(Twins.EMPTY, 4, 1, 2, crit);
            refused(Twins.WITH_ROOM, 4, 1, 2, crit);
        }
        added(4, 1, 2, LO);
        added(4, 1, 2, HI);
    }

    private static void refusedForAnotherPeriod() {
        Checks.sentence("4. `period` is not in 1..16;");
        int[] others = {Integer.MIN_VALUE, -16, -1, 0, 17, 18, 32, 257, 65537, Integer.MAX_VALUE};
        for (int period : others) {
            for (int crit = LO; crit <= HI; crit++) {
                refused(Twins.EMPTY, period, 1, 1, crit);
                refused(Twins.WITH_ROOM, period, 1, 1, crit);
            }
        }
        for (int period = 1; period <= 16; period++) {
            added(period, 1, 1, LO);
            added(period, 1, 1, HI);
        }
    }

    private static void refusedForAnotherLoBudget() {
        Checks.sentence("5. `cLo` is not in 1..`period`;");
        for (int crit = LO; crit <= HI; crit++) {
            for (int period = 1; period <= 16; period++) {
                refused(Twins.EMPTY, period, 0, period, crit);
                added(period, 1, period, crit);
                added(period, period, period, crit);
                refused(Twins.EMPTY, period, period + 1, period, crit);
                refused(Twins.EMPTY, period, period + 1, period + 1, crit);
            }
            for (int cLo : new int[] {Integer.MIN_VALUE, -1, 0, 5, 16, Integer.MAX_VALUE}) {
                refused(Twins.WITH_ROOM, 4, cLo, 4, crit);
                refused(Twins.WITH_ROOM, 4, cLo, cLo, crit);
            }
        }
    }

    private static void refusedForAnotherHiBudget() {
        Checks.sentence("6. `crit == HI` and `cHi` is not in `cLo`..`period`.");
        for (int period = 1; period <= 16; period++) {
            for (int cLo = 1; cLo <= period; cLo++) {
                refused(Twins.EMPTY, period, cLo, cLo - 1, HI);
                added(period, cLo, cLo, HI);
                added(period, cLo, period, HI);
                refused(Twins.EMPTY, period, cLo, period + 1, HI);
            }
        }
        for (int cHi : new int[] {Integer.MIN_VALUE, -2, -1, 0, 1, 5, 16, Integer.MAX_VALUE}) {
            refused(Twins.WITH_ROOM, 4, 2, cHi, HI);
        }
    }

    private static void refusedForManyReasons() {
        Checks.sentence("`addTask(period, cLo, cHi, crit)` examines these conditions in this order; the first that"
            + " holds refuses with -1 and nothing changes");
        refused(Twins.ALL, 0, 0, 0, 2);
        refused(Twins.ALL, 17, 18, -1, -1);
        refused(Twins.ALL, Integer.MIN_VALUE, Integer.MIN_VALUE, Integer.MIN_VALUE, Integer.MIN_VALUE);
        refused(Twins.ALL, Integer.MAX_VALUE, Integer.MAX_VALUE, Integer.MAX_VALUE, Integer.MAX_VALUE);
        refused(Twins.ALL, 0, 1, 1, HI);
        refused(Twins.ALL, 3, 4, 3, HI);
    }

    private static void loIgnoresHiBudget() {
        Checks.sentence("For `crit == LO`, `cHi` is ignored (any value is acceptable) and the stored `cHi` is `cLo`.");
        int[] values = {Integer.MIN_VALUE, -1, 0, 1, 2, 3, 17, Integer.MAX_VALUE};
        MixedCritKernel kernel = new MixedCritKernel(8);
        for (int i = 0; i < values.length; i++) {
            Checks.due("LO with cHi " + values[i], kernel.addTask(16, 2, values[i], LO), i);
        }
        Checks.due("ULL of eight", kernel.utilNum(0), 720720);
        Checks.due("UHH of eight", kernel.utilNum(2), 0);
        Checks.due("admit", kernel.admit(), MixedCritKernel.VERDICT_EDF);
        for (int cHi : values) {
            MixedCritKernel over = Checks.kernel(1, new int[] {5, 2, cHi, LO});
            over.setExec(0, 4);
            over.admit();
            Checks.due("LO job over its budget, cHi " + cHi, over.run(5), 2);
            Checks.counters("LO job over its budget, cHi " + cHi, over, 0, 2, 0, 1, 0, 0, 0);
            Checks.due("no switch, cHi " + cHi, over.stat(MixedCritKernel.STAT_SWITCHES), 0);
        }
    }

    private static void indexIsTheCountBefore() {
        Checks.sentence("it gets index `taskCount()` as it was before the call, and that index is answered;"
            + " `taskCount()` grows by 1");
        MixedCritKernel kernel = new MixedCritKernel(8);
        for (int task = 0; task < 8; task++) {
            kernel.addTask(task, task + 1, task, HI);
            Checks.due("taskCount before task " + task, kernel.taskCount(), task);
            Checks.due("index of task " + task, kernel.addTask(9 + task, 1, 1, task % 2), task);
            Checks.due("taskCount after task " + task, kernel.taskCount(), task + 1);
        }
        kernel.admit();
        for (int task = 0; task < 8; task++) {
            Checks.due("the period of task " + task, kernel.jobDeadline(task), 9 + task);
        }
    }

    private static void newTaskIsFresh() {
        Checks.sentence("the task has the given period, criticality and `cLo`, and `cHi` as given for a HI task or"
            + " equal to `cLo` for a LO task, demand e = `cLo`, no pending job, and all its counters 0");
        MixedCritKernel kernel = Checks.kernel(3, new int[] {6, 3, 3, LO});
        kernel.setExec(0, 1);
        Checks.due("second index", kernel.addTask(6, 2, 3, HI), 1);
        Checks.counters("new task", kernel, 1, 0, 0, 0, 0, 0, 0);
        Checks.due("new task has no job", kernel.jobDone(1), -1);
        Checks.due("new task has no deadline", kernel.jobDeadline(1), -1);
        kernel.admit();
        Checks.due("demands are 1 and cLo = 2", kernel.run(6), 3);
        Checks.due("both completed", kernel.counter(-1, MixedCritKernel.CNT_COMPLETED), 2);
        for (int cLo = 1; cLo <= 16; cLo++) {
            for (int crit = LO; crit <= HI; crit++) {
                MixedCritKernel alone = Checks.kernel(1, new int[] {16, cLo, 16, crit});
                alone.admit();
                Checks.due("first demand is cLo " + cLo, alone.run(16), cLo);
                Checks.counters("first demand is cLo " + cLo, alone, 0, 2, 1, 0, 0, 0, 0);
            }
        }
    }

    private static void nothingElseChanges() {
        Checks.sentence("Nothing else changes: time, mode, x, lastRan, system counters and other tasks stay as they"
            + " were.");
        MixedCritKernel kernel = Checks.kernel(8, new int[] {8, 2, 4, HI});
        kernel.setExec(0, 3);
        for (int task = 1; task < 8; task++) {
            kernel.addTask(16, 1, 1, LO);
            String name = "with task " + task;
            Checks.due("time " + name, kernel.time(), 0);
            Checks.due("mode " + name, kernel.mode(), LO);
            Checks.due("lastRan " + name, kernel.lastRan(), -1);
            Checks.due("xNum " + name, kernel.xNum(), 0);
            Checks.due("xDen " + name, kernel.xDen(), 0);
            Checks.stats(name, kernel, 0, 0, 0, 0);
            Checks.counters("other task " + name, kernel, 0, 0, 0, 0, 0, 0, 0);
            Checks.due("UHL " + name, kernel.utilNum(1), 180180);
            Checks.due("UHH " + name, kernel.utilNum(2), 360360);
        }
        kernel.admit();
        Checks.due("the other task's job", kernel.run(8), 3);
        Checks.counters("the other task keeps demand 3", kernel, 0, 2, 1, 0, 0, 0, 0);
    }

    private static void allowedAfterReject() {
        Checks.sentence("Adding after a `VERDICT_REJECT` is allowed.");
        MixedCritKernel kernel = Checks.kernel(4, new int[] {2, 2, 2, LO}, new int[] {16, 1, 1, HI});
        for (int task = 2; task < 4; task++) {
            Checks.due("too much", kernel.admit(), MixedCritKernel.VERDICT_REJECT);
            Checks.due("add after a reject", kernel.addTask(16, 1, 1, task % 2), task);
            Checks.due("taskCount after a reject", kernel.taskCount(), task + 1);
        }
        Checks.due("too much", kernel.admit(), MixedCritKernel.VERDICT_REJECT);
        Checks.due("rejected and full", kernel.addTask(16, 1, 1, LO), -1);
    }

    private static void everyCombination() {
        Checks.sentence("If none of the six conditions holds, the task is added (LO or HI alike)");
        for (int period = -1; period <= 18; period++) {
            for (int cLo = -1; cLo <= 18; cLo++) {
                for (int cHi = -1; cHi <= 18; cHi++) {
                    for (int crit = -1; crit <= 2; crit++) {
                        one(period, cLo, cHi, crit);
                    }
                }
            }
        }
    }

    private static void farArguments() {
        int[] far = {Integer.MIN_VALUE, Integer.MIN_VALUE + 1, -17, 17, 33, 65537, Integer.MAX_VALUE};
        for (int value : far) {
            for (int crit = 0; crit <= 1; crit++) {
                one(value, 1, 1, crit);
                one(4, value, 4, crit);
                one(4, 1, value, crit);
                one(value, value, value, crit);
            }
            one(4, 1, 1, value);
        }
    }

    private static void one(int period, int cLo, int cHi, int crit) {
        boolean good = (crit == LO || crit == HI) && period >= 1 && period <= 16 && cLo >= 1 && cLo <= period
            && (crit == LO || cHi >= cLo && cHi <= period);
        if (good) {
            added(period, cLo, cHi, crit);
            return;
        }
        String call = call(period, cLo, cHi, crit);
        MixedCritKernel kernel = new MixedCritKernel(2);
        String before = Checks.state(kernel);
        Checks.due(call, kernel.addTask(period, cLo, cHi, crit), -1);
        Checks.same(call + " changes nothing", Checks.state(kernel), before);
    }

    private static void added(int period, int cLo, int cHi, int crit) {
        String call = call(period, cLo, cHi, crit);
        MixedCritKernel kernel = new MixedCritKernel(2);
        long unit = 720720 / period;
        Checks.due(call, kernel.addTask(period, cLo, cHi, crit), 0);
        Checks.due(call + " taskCount", kernel.taskCount(), 1);
        Checks.due(call + " ULL", kernel.utilNum(0), crit == LO ? cLo * unit : 0);
        Checks.due(call + " UHL", kernel.utilNum(1), crit == HI ? cLo * unit : 0);
        Checks.due(call + " UHH", kernel.utilNum(2), crit == HI ? cHi * unit : 0);
    }

    private static void refused(java.util.List<Twins.Start> starts, int period, int cLo, int cHi, int crit) {
        Twins.refused(starts, call(period, cLo, cHi, crit), -1, kernel -> kernel.addTask(period, cLo, cHi, crit));
    }

    private static String call(int period, int cLo, int cHi, int crit) {
        return "addTask(" + period + ", " + cLo + ", " + cHi + ", " + crit + ")";
    }
}
