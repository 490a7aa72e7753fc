/** Promise 6: admission. */
final class AdmitTest {
    private static final int LO = Checks.LO;
    private static final int HI = Checks.HI;
    private static final int REFUSED = MixedCritKernel.VERDICT_REFUSED;
    private static final int REJECT = MixedCritKernel.VERDICT_REJECT;
    private static final int EDF = MixedCritKernel.VERDICT_EDF;
    private static final int VD = MixedCritKernel.VERDICT_VD;

    public static void main(String[] args) {
        refusedWithoutTasks();
        refusedWhenAdmitted();
        ruleOne();
        ruleTwo();
        ruleThree();
        ruleFour();
        rejectChangesNothing();
        successReleasesEveryTask();
        releasedDemandIsTheCurrentOne();
        Checks.finish();
    }

    private static void refusedWithoutTasks() {
        MixedCritKernel kernel = new MixedCritKernel(8);
        String before = Checks.state(kernel);
        Checks.due("admit without tasks", kernel.admit(), REFUSED);
        Checks.same("admit without tasks changes nothing", Checks.state(kernel), before);
        Checks.due("not admitted", kernel.run(1), -1);
        Checks.due("a task may still be added", kernel.addTask(4, 1, 1, LO), 0);
        Checks.due("and admitted", kernel.admit(), EDF);
    }

    private static void refusedWhenAdmitted() {
        int[][] sets = {{1, 1}, {4, 2}};
        for (int[] set : sets) {
            MixedCritKernel kernel = new MixedCritKernel(8);
            kernel.addTask(set[0], set[1], 0, LO);
            kernel.admit();
            String before = Checks.state(kernel);
            Checks.due("admit again", kernel.admit(), REFUSED);
            Checks.same("admit again changes nothing", Checks.state(kernel), before);
            kernel.run(3);
            before = Checks.state(kernel);
            Checks.due("admit after ticks", kernel.admit(), REFUSED);
            Checks.same("admit after ticks changes nothing", Checks.state(kernel), before);
        }
        MixedCritKernel virtual = Checks.pair();
        virtual.admit();
        String before = Checks.state(virtual);
        Checks.due("admit again after VD", virtual.admit(), REFUSED);
        Checks.same("admit again after VD changes nothing", Checks.state(virtual), before);
    }

    private static void ruleOne() {
        verdict("ULL = L", EDF, 1, 1, new int[][] {{16, 16, 0, LO}});
        verdict("ULL just over L", REJECT, 0, 0, new int[][] {{16, 16, 0, LO}, {16, 1, 0, LO}});
        verdict("ULL + UHL = L + 63", REJECT, 0, 0, new int[][] {
            {11, 2, 2, HI}, {13, 3, 3, LO}, {5, 1, 1, HI}, {16, 2, 2, HI}, {5, 1, 1, LO}, {16, 1, 1, HI}});
        // Rule 3 alone would take these: both of its right-hand factors are below 0.
        verdict("all far over L", REJECT, 0, 0, new int[][] {
            {1, 1, 1, LO}, {1, 1, 1, LO}, {16, 1, 16, HI}, {16, 1, 16, HI}, {16, 1, 16, HI}, {16, 1, 16, HI}});
        verdict("ULL a little over L, UHH far over", REJECT, 0, 0, new int[][] {
            {1, 1, 1, LO}, {4, 1, 1, LO}, {16, 1, 16, HI}, {16, 1, 16, HI}, {16, 1, 16, HI}, {16, 1, 16, HI},
            {16, 1, 16, HI}, {16, 1, 16, HI}});
    }

    private static void ruleTwo() {
        verdict("one LO task", EDF, 1, 1, new int[][] {{4, 1, 0, LO}});
        verdict("one HI task", EDF, 1, 1, new int[][] {{4, 1, 4, HI}});
        verdict("ULL + UHH = L", EDF, 1, 1, new int[][] {{13, 1, 1, LO}, {13, 4, 12, HI}});
        verdict("ULL + UHH = L - 65", EDF, 1, 1, new int[][] {
            {8, 1, 1, LO}, {7, 2, 3, HI}, {16, 1, 1, LO}, {11, 2, 3, HI}, {9, 1, 1, LO}});
        // ULL + UHH = L + 63; UHL / (L - ULL) = 144144 / (720720 - 432495).
        verdict("ULL + UHH = L + 63", VD, 2288, 4575, new int[][] {
            {16, 3, 3, LO}, {13, 3, 3, LO}, {5, 1, 2, HI}, {11, 2, 2, LO}});
    }

    private static void ruleThree() {
        verdict("ordinary", VD, 1, 2, new int[][] {{4, 2, 2, LO}, {8, 2, 5, HI}});
        verdict("equality, halves", VD, 1, 2, new int[][] {{2, 1, 1, LO}, {4, 1, 3, HI}});
        verdict("equality, thirteenths", VD, 6, 13, new int[][] {{13, 4, 11, HI}, {3, 1, 1, LO}});
        verdict("near equality", VD, 6903, 11572, new int[][] {
            {9, 1, 1, LO}, {16, 1, 1, LO}, {16, 1, 6, HI}, {11, 3, 4, HI}, {13, 1, 1, LO}, {16, 3, 3, LO}});
    }

    private static void ruleFour() {
        verdict("just over equality", REJECT, 0, 0, new int[][] {
            {16, 2, 13, HI}, {13, 3, 3, LO}, {11, 2, 2, LO}, {16, 3, 3, LO}});
        verdict("UHH over L, no LO task", REJECT, 0, 0, new int[][] {{4, 1, 4, HI}, {4, 1, 1, HI}});
        verdict("UHH = L with a LO task", REJECT, 0, 0, new int[][] {{16, 1, 16, HI}, {16, 1, 1, LO}});
        verdict("ULL + UHL = L, UHH above UHL", REJECT, 0, 0, new int[][] {{2, 1, 1, LO}, {2, 1, 2, HI}});
    }

    private static void verdict(String name, int want, int num, int den, int[][] tasks) {
        MixedCritKernel kernel = new MixedCritKernel(8);
        for (int[] task : tasks) {
            kernel.addTask(task[0], task[1], task[2], task[3]);
        }
        Checks.due(name + ": taskCount", kernel.taskCount(), tasks.length);
        Checks.due(name + ": admit", kernel.admit(), want);
        Checks.due(name + ": xNum", kernel.xNum(), num);
        Checks.due(name + ": xDen", kernel.xDen(), den);
        Checks.due(name + ": admitted", kernel.run(1) != -1, want != REJECT);
    }

    private static void rejectChangesNothing() {
        MixedCritKernel kernel = new MixedCritKernel(4);
        kernel.addTask(2, 1, 1, LO);
        kernel.addTask(2, 1, 2, HI);
        String before = Checks.state(kernel);
        Checks.due("reject", kernel.admit(), REJECT);
        Checks.same("reject changes nothing", Checks.state(kernel), before);
        Checks.due("reject again", kernel.admit(), REJECT);
        Checks.same("reject again changes nothing", Checks.state(kernel), before);
        Checks.due("run stays refused", kernel.run(1), -1);
        Checks.due("setExec still works", kernel.setExec(0, 2), true);
        Checks.due("addTask still works", kernel.addTask(16, 1, 1, LO), 2);
        Checks.due("and rejects still", kernel.admit(), REJECT);
    }

    private static void successReleasesEveryTask() {
        MixedCritKernel kernel = new MixedCritKernel(8);
        for (int task = 0; task < 8; task++) {
            kernel.addTask(9 + task, 1, 1, task % 2);
        }
        Checks.due("eight tasks", kernel.admit(), EDF);
        for (int task = 0; task < 8; task++) {
            Checks.due("jobDone of " + task, kernel.jobDone(task), 0);
            Checks.due("jobDeadline of " + task, kernel.jobDeadline(task), 9 + task);
            Checks.due("released of " + task, kernel.counter(task, MixedCritKernel.CNT_RELEASED), 1);
            for (int kind = 1; kind < 6; kind++) {
                Checks.due("counter " + kind + " of " + task, kernel.counter(task, kind), 0);
            }
        }
        Checks.due("time", kernel.time(), 0);
        Checks.due("mode", kernel.mode(), LO);
        Checks.due("lastRan", kernel.lastRan(), -1);
        for (int kind = 0; kind < 4; kind++) {
            Checks.due("stat " + kind, kernel.stat(kind), 0);
        }
    }

    private static void releasedDemandIsTheCurrentOne() {
        MixedCritKernel kernel = Checks.pair();
        kernel.setExec(0, 1);
        kernel.admit();
        kernel.setExec(0, 2);
        Checks.due("first job of demand 1, then 2 of task 1", kernel.run(4), 3);
        Checks.due("completed", kernel.counter(-1, MixedCritKernel.CNT_COMPLETED), 2);
    }
}
