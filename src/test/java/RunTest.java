/** Promise 7: running ticks, step by step as "The tick" tells them. */
final class RunTest {
    private static final int LO = Checks.LO;
    private static final int HI = Checks.HI;
    private static final int RELEASED = MixedCritKernel.CNT_RELEASED;
    private static final int COMPLETED = MixedCritKernel.CNT_COMPLETED;
    private static final int ABORTED = MixedCritKernel.CNT_ABORTED;
    private static final int DROPPED = MixedCritKernel.CNT_DROPPED;
    private static final int SKIPPED = MixedCritKernel.CNT_SKIPPED;
    private static final int MISSED = MixedCritKernel.CNT_MISSED;

    public static void main(String[] args) {
        refusals();
        leastAndMostSteps();
        manyCallsEqualOne();
        equalKeysGoToTheLowestIndex();
        leastKeyGoesFirst();
        virtualDeadlineGoesFirst();
        completionComesBeforeTheSwitch();
        loJobIsAborted();
        switchDropsLoJobs();
        switchAndAbortInOneTick();
        hiJobIsAbortedAtItsHiBudget();
        noSecondSwitchInHiMode();
        loReleasesAreSkippedInHiMode();
        hiReleasesGoOnInHiMode();
        resetComesBeforeTheRelease();
        noJobIsMissed();
        eightTasks();
        Checks.finish();
    }

    private static void refusals() {
        int[] refused = {Integer.MIN_VALUE, -1000, -1, 0, 1001, 1002, Integer.MAX_VALUE};
        MixedCritKernel fresh = new MixedCritKernel(8);
        MixedCritKernel waiting = Checks.pair();
        Checks.due("run without tasks", fresh.run(1), -1);
        String before = Checks.state(waiting);
        Checks.due("run before admission", waiting.run(1), -1);
        Checks.due("run(1000) before admission", waiting.run(1000), -1);
        Checks.same("run before admission changes nothing", Checks.state(waiting), before);
        waiting.admit();
        waiting.run(3);
        before = Checks.state(waiting);
        for (int steps : refused) {
            Checks.due("run(" + steps + ")", waiting.run(steps), -1);
            Checks.same("run(" + steps + ") changes nothing", Checks.state(waiting), before);
        }
    }

    private static void leastAndMostSteps() {
        MixedCritKernel kernel = new MixedCritKernel(8);
        kernel.addTask(10, 3, 3, LO);
        kernel.admit();
        Checks.due("run(1000)", kernel.run(1000), 300);
        Checks.due("time", kernel.time(), 1000);
        Checks.due("run(1)", kernel.run(1), 1);
        Checks.due("time", kernel.time(), 1001);
        Checks.due("run(999)", kernel.run(999), 299);
        Checks.due("idle ticks in all", kernel.stat(MixedCritKernel.STAT_IDLE), 1400);
        Checks.due("a full task", fullTask().run(1000), 1000);
        MixedCritKernel idle = new MixedCritKernel(1);
        idle.addTask(16, 1, 1, LO);
        idle.admit();
        idle.run(1);
        Checks.due("idle ticks alone", idle.run(15), 0);
    }

    private static MixedCritKernel fullTask() {
        MixedCritKernel kernel = new MixedCritKernel(8);
        kernel.addTask(1, 1, 1, HI);
        kernel.admit();
        return kernel;
    }

    private static void manyCallsEqualOne() {
        MixedCritKernel one = overrunningPair();
        MixedCritKernel many = overrunningPair();
        int busy = 0;
        for (int tick = 0; tick < 500; tick++) {
            int ran = many.run(1);
            Checks.due("run(1) tells lastRan", ran == 1, many.lastRan() != -1);
            busy += ran;
        }
        Checks.due("500 calls of one tick", one.run(500), busy);
        Checks.same("500 calls of one tick", Checks.state(one), Checks.state(many));
    }

    private static MixedCritKernel overrunningPair() {
        MixedCritKernel kernel = Checks.pair();
        kernel.setExec(0, 3);
        kernel.setExec(1, 7);
        kernel.admit();
        return kernel;
    }

    private static void equalKeysGoToTheLowestIndex() {
        MixedCritKernel kernel = new MixedCritKernel(3);
        kernel.addTask(6, 2, 2, LO);
        kernel.addTask(6, 1, 1, HI);
        kernel.addTask(6, 1, 1, LO);
        kernel.admit();
        ranInTurn("equal keys", kernel, new int[] {0, 0, 1, 2, -1, -1, 0});
    }

    private static void leastKeyGoesFirst() {
        MixedCritKernel kernel = new MixedCritKernel(3);
        kernel.addTask(12, 4, 4, LO);
        kernel.addTask(6, 2, 2, LO);
        kernel.addTask(4, 1, 1, LO);
        kernel.admit();
        // At 6 the jobs of tasks 0 and 1 both have key 12, and at 8 those of tasks 1 and 2.
        ranInTurn("least key", kernel, new int[] {2, 1, 1, 0, 2, 0, 0, 0, 1, 1, 2, -1, 2});
    }

    private static void virtualDeadlineGoesFirst() {
        // x = (1/8) / (1/2) = 1/4: the HI task's virtual deadline is 4, below the 6 of the LO task.
        MixedCritKernel kernel = new MixedCritKernel(2);
        kernel.addTask(6, 3, 3, LO);
        kernel.addTask(16, 2, 10, HI);
        Checks.due("VD", kernel.admit(), MixedCritKernel.VERDICT_VD);
        ranInTurn("virtual deadline", kernel, new int[] {1, 1, 0, 0, 0, -1, 0});
    }

    private static void completionComesBeforeTheSwitch() {
        MixedCritKernel kernel = Checks.pair();
        kernel.admit();
        kernel.run(8);
        Checks.due("demand cLo: no switch", kernel.stat(MixedCritKernel.STAT_SWITCHES), 0);
        Checks.due("demand cLo: completed", kernel.counter(1, COMPLETED), 1);
        MixedCritKernel full = Checks.pair();
        full.setExec(1, 5);
        full.admit();
        full.run(7);
        Checks.due("demand cHi: completed", full.counter(1, COMPLETED), 1);
        Checks.due("demand cHi: not aborted", full.counter(1, ABORTED), 0);
    }

    private static void loJobIsAborted() {
        MixedCritKernel kernel = Checks.pair();
        kernel.setExec(0, 3);
        kernel.admit();
        kernel.run(1);
        counters("LO job below its budget", kernel, 0, new int[] {1, 0, 0, 0, 0, 0});
        kernel.run(1);
        counters("LO job at its budget", kernel, 0, new int[] {1, 0, 1, 0, 0, 0});
        Checks.due("no longer pending", kernel.jobDone(0), -1);
        Checks.due("mode stays LO", kernel.mode(), LO);
    }

    private static void switchDropsLoJobs() {
        MixedCritKernel kernel = new MixedCritKernel(5);
        kernel.addTask(16, 1, 1, LO);
        kernel.addTask(8, 1, 6, HI);
        kernel.addTask(4, 1, 1, LO);
        kernel.addTask(16, 1, 1, LO);
        kernel.addTask(16, 1, 1, HI);
        kernel.setExec(1, 6);
        // ULL = 6/16, UHL = 3/16, UHH = 13/16: 18 <= 3 * 10, so x = 3/10, keys 160, 24, 40, 160, 48.
        Checks.due("VD", kernel.admit(), MixedCritKernel.VERDICT_VD);
        Checks.due("xDen", kernel.xDen(), 10);
        Checks.due("the switching tick", kernel.run(1), 1);
        Checks.due("lastRan", kernel.lastRan(), 1);
        Checks.due("mode", kernel.mode(), HI);
        counters("LO task 0", kernel, 0, new int[] {1, 0, 0, 1, 0, 0});
        counters("switching task 1", kernel, 1, new int[] {1, 0, 0, 0, 0, 0});
        counters("LO task 2", kernel, 2, new int[] {1, 0, 0, 1, 0, 0});
        counters("LO task 3", kernel, 3, new int[] {1, 0, 0, 1, 0, 0});
        counters("HI task 4", kernel, 4, new int[] {1, 0, 0, 0, 0, 0});
        Checks.due("the switching job goes on", kernel.jobDone(1), 1);
        Checks.due("the other HI job goes on", kernel.jobDone(4), 0);
        Checks.due("a LO job is gone", kernel.jobDone(0), -1);
        ranInTurn("after the switch", kernel, new int[] {1, 1, 1, 1, 1, 4, -1});
    }

    private static void switchAndAbortInOneTick() {
        MixedCritKernel kernel = new MixedCritKernel(2);
        kernel.addTask(4, 2, 2, HI);
        kernel.addTask(8, 2, 2, LO);
        kernel.setExec(0, 3);
        kernel.admit();
        kernel.run(2);
        counters("cLo = cHi, over both", kernel, 0, new int[] {1, 0, 1, 0, 0, 0});
        counters("LO beside it", kernel, 1, new int[] {1, 0, 0, 1, 0, 0});
        Checks.due("switches", kernel.stat(MixedCritKernel.STAT_SWITCHES), 1);
        Checks.due("nothing pending: reset at once", kernel.stat(MixedCritKernel.STAT_RESETS), 1);
        Checks.due("mode", kernel.mode(), LO);
    }

    private static void hiJobIsAbortedAtItsHiBudget() {
        MixedCritKernel kernel = Checks.pair();
        kernel.setExec(1, 6);
        kernel.admit();
        kernel.run(6);
        Checks.due("one below cHi", kernel.jobDone(1), 4);
        kernel.run(1);
        counters("at cHi", kernel, 1, new int[] {1, 0, 1, 0, 0, 0});
        Checks.due("reset after the abort", kernel.mode(), LO);
    }

    private static void noSecondSwitchInHiMode() {
        MixedCritKernel kernel = new MixedCritKernel(2);
        kernel.addTask(8, 1, 4, HI);
        kernel.addTask(8, 1, 4, HI);
        kernel.setExec(0, 4);
        kernel.setExec(1, 4);
        Checks.due("EDF", kernel.admit(), MixedCritKernel.VERDICT_EDF);
        Checks.due("all busy", kernel.run(8), 8);
        Checks.due("one switch for two overruns", kernel.stat(MixedCritKernel.STAT_SWITCHES), 1);
        Checks.due("one reset", kernel.stat(MixedCritKernel.STAT_RESETS), 1);
        Checks.due("both completed", kernel.counter(-1, COMPLETED), 2);
    }

    private static void loReleasesAreSkippedInHiMode() {
        MixedCritKernel kernel = Checks.pair();
        kernel.setExec(1, 5);
        kernel.admit();
        kernel.run(4);
        Checks.due("mode at 4", kernel.mode(), HI);
        counters("LO release at 4 is skipped", kernel, 0, new int[] {1, 1, 0, 0, 1, 0});
        Checks.due("no job of it", kernel.jobDone(0), -1);
    }

    private static void hiReleasesGoOnInHiMode() {
        MixedCritKernel kernel = new MixedCritKernel(3);
        kernel.addTask(16, 2, 10, HI);
        kernel.addTask(4, 1, 1, HI);
        kernel.addTask(8, 1, 1, LO);
        kernel.setExec(0, 10);
        // ULL = 2/16, UHL = 6/16, UHH = 14/16: ULL + UHH = L.
        Checks.due("EDF", kernel.admit(), MixedCritKernel.VERDICT_EDF);
        ranInTurn("HI releases", kernel, new int[] {1, 2, 0, 0, 1, 0, 0, 0, 1, 0, 0, 0});
        Checks.due("mode at 12", kernel.mode(), HI);
        counters("HI task 1", kernel, 1, new int[] {4, 3, 0, 0, 0, 0});
        counters("LO task 2", kernel, 2, new int[] {1, 1, 0, 0, 1, 0});
    }

    private static void resetComesBeforeTheRelease() {
        MixedCritKernel kernel = new MixedCritKernel(2);
        kernel.addTask(2, 1, 1, LO);
        kernel.addTask(4, 1, 3, HI);
        kernel.setExec(1, 3);
        kernel.admit();
        // The HI job ends in the very tick before the release at 4.
        ranInTurn("HI job up to the boundary", kernel, new int[] {0, 1, 1, 1});
        Checks.due("reset at 4", kernel.mode(), LO);
        counters("LO release at 2 skipped, at 4 done", kernel, 0, new int[] {2, 1, 0, 0, 1, 0});
    }

    /** Admission rules a miss out, so what can be seen is that a job in its last tick is not called late. */
    private static void noJobIsMissed() {
        MixedCritKernel tight = new MixedCritKernel(2);
        tight.addTask(2, 1, 1, LO);
        tight.addTask(4, 1, 3, HI);
        tight.setExec(0, 9);
        tight.setExec(1, 9);
        tight.admit();
        for (int tick = 0; tick < 100; tick++) {
            tight.run(1);
            Checks.due("missed at " + tight.time(), tight.counter(-1, MISSED), 0);
        }
        Checks.due("HI jobs ended at their budget", tight.counter(1, ABORTED), 25);
        MixedCritKernel full = new MixedCritKernel(2);
        full.addTask(16, 8, 8, LO);
        full.addTask(2, 1, 1, HI);
        full.admit();
        Checks.due("no idle tick", full.run(1000), 1000);
        Checks.due("none missed", full.counter(-1, MISSED), 0);
        Checks.due("LO jobs in time", full.counter(0, COMPLETED), 62);
        Checks.due("HI jobs in time", full.counter(1, COMPLETED), 500);
    }

    private static void eightTasks() {
        MixedCritKernel kernel = new MixedCritKernel(8);
        for (int task = 0; task < 8; task++) {
            kernel.addTask(16, 1, 2, task % 2);
        }
        kernel.setExec(1, 2);
        Checks.due("EDF", kernel.admit(), MixedCritKernel.VERDICT_EDF);
        ranInTurn("eight tasks", kernel, new int[] {0, 1, 1, 3, 5, 7, -1});
        Checks.due("all completed", kernel.counter(-1, COMPLETED), 5);
        Checks.due("all dropped", kernel.counter(-1, DROPPED), 3);
        kernel.run(9);
        Checks.due("all released at 16", kernel.counter(-1, RELEASED), 16);
    }

    private static void ranInTurn(String name, MixedCritKernel kernel, int[] tasks) {
        for (int i = 0; i < tasks.length; i++) {
            Checks.due(name + ": run(1), tick " + i, kernel.run(1), tasks[i] == -1 ? 0 : 1);
            Checks.due(name + ": lastRan, tick " + i, kernel.lastRan(), tasks[i]);
        }
    }

    private static void counters(String name, MixedCritKernel kernel, int task, int[] want) {
        int[] kinds = {RELEASED, COMPLETED, ABORTED, DROPPED, SKIPPED, MISSED};
        for (int i = 0; i < kinds.length; i++) {
            Checks.due(name + ": counter kind " + kinds[i], kernel.counter(task, kinds[i]), want[i]);
        }
    }
}
