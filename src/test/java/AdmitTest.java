import java.util.ArrayList;
import java.util.List;

/** Promise 6: admission. The rules that give the verdict are held by AdmissionRulesTest. */
final class AdmitTest {
    private static final int LO = Checks.LO;
    private static final int HI = Checks.HI;
    private static final int REFUSED = MixedCritKernel.VERDICT_REFUSED;
    private static final int REJECT = MixedCritKernel.VERDICT_REJECT;
    private static final int EDF = MixedCritKernel.VERDICT_EDF;
    private static final int VD = MixedCritKernel.VERDICT_VD;

    public static void main(String[] args) {
        refusedWhenAdmitted();
        refusedWithoutTasks();
        answersTheVerdict();
        rejectChangesNothing();
        becomesAdmitted();
        factorIsSet();
        modeAndTime();
        everyTaskReleasesAJob();
        releasedDemandIsTheCurrentOne();
        countersAndLastRanStay();
        Checks.finish();
    }

    private static void refusedWhenAdmitted() {
        Checks.sentence("`admit()` is refused with `VERDICT_REFUSED` if the kernel is already admitted");
        Twins.refused(Twins.ADMITTED, "admit()", REFUSED, MixedCritKernel::admit);
    }

    private static void refusedWithoutTasks() {
        Checks.sentence("or `taskCount() == 0`; nothing changes");
        Twins.refused(Twins.EMPTY, "admit()", REFUSED, MixedCritKernel::admit);
        MixedCritKernel kernel = new MixedCritKernel(8);
        kernel.addTask(4, 5, 5, LO);
        Checks.due("admit after a refused task", kernel.admit(), REFUSED);
        Checks.due("not admitted", kernel.run(1), -1);
        Checks.due("a task may still be added", kernel.addTask(4, 1, 1, LO), 0);
        Checks.due("and admitted", kernel.admit(), EDF);
    }

    private static void answersTheVerdict() {
        Checks.sentence("Otherwise it applies the admission rules and answers the verdict.");
        Checks.due("rule 1", Checks.kernel(8, new int[] {2, 1, 1, LO}, new int[] {16, 9, 9, HI}).admit(), REJECT);
        Checks.due("rule 2", Checks.kernel(8, new int[] {2, 1, 1, LO}, new int[] {16, 8, 8, HI}).admit(), EDF);
        Checks.due("rule 3", Checks.kernel(8, new int[] {2, 1, 1, LO}, new int[] {16, 4, 12, HI}).admit(), VD);
        Checks.due("rule 4", Checks.kernel(8, new int[] {2, 1, 1, LO}, new int[] {16, 4, 13, HI}).admit(), REJECT);
        MixedCritKernel demanding = Checks.pair();
        demanding.setExec(0, 32);
        demanding.setExec(1, 32);
        Checks.due("demands do not count", demanding.admit(), VD);
        MixedCritKernel growing = new MixedCritKernel(8);
        growing.addTask(2, 1, 1, LO);
        growing.addTask(2, 1, 2, HI);
        Checks.due("rule 4 for two tasks", growing.admit(), REJECT);
        growing.addTask(16, 1, 1, LO);
        Checks.due("rule 1 for three tasks", growing.admit(), REJECT);
    }

    private static void rejectChangesNothing() {
        Checks.sentence("On `VERDICT_REJECT` nothing changes: the kernel stays not admitted, xNum and xDen stay 0,"
            + " tasks may still be added and `admit` called again.");
        List<Twins.Start> starts = new ArrayList<>();
        starts.add(new Twins.Start("rule 1, room", () -> tooMuch(8, 2)));
        starts.add(new Twins.Start("rule 1, full", () -> tooMuch(2, 2)));
        starts.add(new Twins.Start("rule 4, room", () -> tooMuch(8, 1)));
        starts.add(new Twins.Start("rule 4, full", () -> tooMuch(2, 1)));
        Twins.refused(starts, "admit()", REJECT, MixedCritKernel::admit);
        MixedCritKernel kernel = tooMuch(4, 1);
        for (int call = 0; call < 3; call++) {
            Checks.due("reject, call " + call, kernel.admit(), REJECT);
            Checks.due("xNum", kernel.xNum(), 0);
            Checks.due("xDen", kernel.xDen(), 0);
            Checks.due("run stays refused", kernel.run(1), -1);
            Checks.due("no job", kernel.jobDone(0), -1);
            Checks.due("none released", kernel.counter(-1, MixedCritKernel.CNT_RELEASED), 0);
        }
        Checks.due("addTask still works", kernel.addTask(16, 1, 1, LO), 2);
        Checks.due("and rejects still", kernel.admit(), REJECT);
    }

    /** Rejected by rule 4 if cLo is 1, and by rule 1 if it is 2. */
    private static MixedCritKernel tooMuch(int capacity, int cLo) {
        MixedCritKernel kernel = Checks.kernel(capacity, new int[] {2, 1, 1, LO}, new int[] {2, cLo, 2, HI});
        kernel.setExec(0, 3);
        return kernel;
    }

    private static void becomesAdmitted() {
        Checks.sentence("On `VERDICT_EDF` or `VERDICT_VD`: the kernel becomes admitted");
        admitted("EDF", Checks.kernel(8, new int[] {1, 1, 1, LO}), EDF);
        admitted("VD", Checks.pair(), VD);
    }

    private static void admitted(String name, MixedCritKernel kernel, int verdict) {
        Checks.due(name + ": run before", kernel.run(1), -1);
        Checks.due(name + ": admit", kernel.admit(), verdict);
        Checks.due(name + ": admit again", kernel.admit(), REFUSED);
        Checks.due(name + ": addTask", kernel.addTask(16, 1, 1, LO), -1);
        Checks.due(name + ": run", kernel.run(1), 1);
    }

    private static void factorIsSet() {
        Checks.sentence("xNum and xDen are set to x in lowest terms (1 and 1 for `VERDICT_EDF`)");
        factor("EDF of a LO task", Checks.kernel(8, new int[] {7, 3, 3, LO}), 1, 1);
        factor("EDF of a HI task", Checks.kernel(8, new int[] {7, 3, 7, HI}), 1, 1);
        factor("EDF of both", Checks.kernel(8, new int[] {4, 1, 1, LO}, new int[] {4, 1, 2, HI}), 1, 1);
        factor("VD, 180180 / 360360", Checks.pair(), 1, 2);
    }

    private static void factor(String name, MixedCritKernel kernel, int num, int den) {
        kernel.admit();
        Checks.due("xNum, " + name, kernel.xNum(), num);
        Checks.due("xDen, " + name, kernel.xDen(), den);
    }

    private static void modeAndTime() {
        Checks.sentence("the mode is LO; time stays 0");
        for (MixedCritKernel kernel : new MixedCritKernel[] {Checks.pair(), eightTasks()}) {
            kernel.admit();
            Checks.due("mode", kernel.mode(), LO);
            Checks.due("time", kernel.time(), 0);
        }
    }

    private static void everyTaskReleasesAJob() {
        Checks.sentence("step C3 of the tick is done at t = 0, so every task releases a job: `CNT_RELEASED` of each"
            + " task increases by 1 and each task has a pending job with r = 0, executed amount 0 and demand equal to"
            + " its current e");
        MixedCritKernel kernel = eightTasks();
        Checks.due("eight tasks", kernel.admit(), EDF);
        for (int task = 0; task < 8; task++) {
            Checks.due("jobDone of " + task, kernel.jobDone(task), 0);
            Checks.due("jobDeadline of " + task, kernel.jobDeadline(task), 9 + task);
            Checks.counters("task " + task, kernel, task, 1, 0, 0, 0, 0, 0);
        }
        Checks.due("the only task", Checks.kernel(1, new int[] {1, 1, 1, HI}).jobDone(0), -1);
        MixedCritKernel single = Checks.kernel(1, new int[] {1, 1, 1, HI});
        single.admit();
        Checks.due("the only task, admitted", single.jobDone(0), 0);
    }

    private static MixedCritKernel eightTasks() {
        MixedCritKernel kernel = new MixedCritKernel(8);
        for (int task = 0; task < 8; task++) {
            kernel.addTask(9 + task, 1, 1, task % 2);
        }
        return kernel;
    }

    private static void releasedDemandIsTheCurrentOne() {
        MixedCritKernel kernel = Checks.pair();
        kernel.setExec(0, 1);
        kernel.admit();
        kernel.setExec(0, 2);
        Checks.due("first job of demand 1, then 2 of task 1", kernel.run(4), 3);
        Checks.due("completed", kernel.counter(-1, MixedCritKernel.CNT_COMPLETED), 2);
    }

    private static void countersAndLastRanStay() {
        Checks.sentence("System counters and lastRan do not change.");
        for (MixedCritKernel kernel : new MixedCritKernel[] {Checks.pair(), eightTasks()}) {
            kernel.admit();
            Checks.stats("after admission", kernel, 0, 0, 0, 0);
            Checks.due("lastRan", kernel.lastRan(), -1);
        }
    }
}
