/** Promise 7: running ticks. The steps of a tick are held by TickTest. */
final class RunTest {
    private static final int LO = Checks.LO;
    private static final int HI = Checks.HI;

    public static void main(String[] args) {
        refusedBeforeAdmission();
        refusedBelowOne();
        refusedAboveTheMost();
        leastAndMostSteps();
        oneAfterTheOther();
        answersTheBusyTicks();
        timeGrowsByTheSteps();
        theRestStays();
        Checks.finish();
    }

    private static void refusedBeforeAdmission() {
        Checks.sentence("`run(steps)` is refused with -1, changing nothing, if the kernel is not admitted");
        for (int steps : new int[] {Integer.MIN_VALUE, 0, 1, 2, 1000, 1001, Integer.MAX_VALUE}) {
            refused(Twins.NOT_ADMITTED, steps);
        }
    }

    private static void refusedBelowOne() {
        Checks.sentence("or `steps < 1`");
        for (int steps : new int[] {Integer.MIN_VALUE, Integer.MIN_VALUE + 1, -1001, -1000, -1, 0}) {
            refused(Twins.ADMITTED, steps);
        }
    }

    private static void refusedAboveTheMost() {
        Checks.sentence("or `steps > MAX_STEPS`");
        for (int steps : new int[] {1001, 1002, 65537, Integer.MAX_VALUE - 1, Integer.MAX_VALUE}) {
            refused(Twins.ADMITTED, steps);
        }
    }

    private static void refused(java.util.List<Twins.Start> starts, int steps) {
        Twins.refused(starts, "run(" + steps + ")", -1, kernel -> kernel.run(steps));
    }

    private static void leastAndMostSteps() {
        Checks.sentence("Otherwise it performs `steps` ticks");
        MixedCritKernel kernel = Checks.kernel(8, new int[] {10, 3, 3, LO});
        kernel.admit();
        Checks.due("run(1000)", kernel.run(1000), 300);
        Checks.due("time", kernel.time(), 1000);
        Checks.due("run(1)", kernel.run(1), 1);
        Checks.due("time", kernel.time(), 1001);
        Checks.due("run(999)", kernel.run(999), 299);
        Checks.due("time", kernel.time(), 2000);
        Checks.stats("2000 ticks", kernel, 0, 0, 1400, 600);
    }

    private static void oneAfterTheOther() {
        Checks.sentence("performs `steps` ticks one after the other, each exactly as described in The tick");
        MixedCritKernel one = overrunningPair();
        MixedCritKernel many = overrunningPair();
        int busy = 0;
        for (int tick = 0; tick < 1000; tick++) {
            int ran = many.run(1);
            Checks.due("run(1) tells lastRan", ran == 1, many.lastRan() != -1);
            busy += ran;
        }
        Checks.due("1000 calls of one tick", one.run(1000), busy);
        Checks.same("1000 calls of one tick", Checks.state(one), Checks.state(many));
    }

    private static MixedCritKernel overrunningPair() {
        MixedCritKernel kernel = Checks.pair();
        kernel.setExec(0, 3);
        kernel.setExec(1, 7);
        kernel.admit();
        return kernel;
    }

    private static void answersTheBusyTicks() {
        Checks.sentence("answers how many of these ticks executed a job (0..`steps`), that is, the number of ticks in"
            + " this call in which step A chose a task");
        MixedCritKernel idle = Checks.kernel(1, new int[] {16, 1, 1, LO});
        idle.admit();
        Checks.due("the one busy tick", idle.run(1), 1);
        Checks.due("one idle tick", idle.run(1), 0);
        Checks.due("idle ticks alone", idle.run(14), 0);
        Checks.due("in this call, not in all", idle.run(16), 1);
        MixedCritKernel full = Checks.kernel(8, new int[] {1, 1, 1, HI});
        full.admit();
        Checks.due("one busy tick", full.run(1), 1);
        Checks.due("busy ticks alone", full.run(1000), 1000);
    }

    private static void timeGrowsByTheSteps() {
        Checks.sentence("Time grows by exactly `steps`.");
        MixedCritKernel kernel = overrunningPair();
        int total = 0;
        for (int steps = 1; steps <= 1000; steps++) {
            kernel.run(steps);
            total += steps;
            Checks.due("time after run(" + steps + ")", kernel.time(), total);
        }
    }

    private static void theRestStays() {
        Checks.sentence("Tasks, budgets, demands e, capacity, admission and x do not change.");
        MixedCritKernel kernel = overrunningPair();
        for (int call = 0; call < 300; call++) {
            kernel.run(1 + call % 7);
            String name = " at " + kernel.time();
            Checks.due("taskCount" + name, kernel.taskCount(), 2);
            Checks.due("ULL" + name, kernel.utilNum(0), 360360);
            Checks.due("UHL" + name, kernel.utilNum(1), 180180);
            Checks.due("UHH" + name, kernel.utilNum(2), 450450);
            Checks.due("xNum" + name, kernel.xNum(), 1);
            Checks.due("xDen" + name, kernel.xDen(), 2);
            Checks.due("admit" + name, kernel.admit(), MixedCritKernel.VERDICT_REFUSED);
            Checks.due("addTask" + name, kernel.addTask(16, 1, 1, LO), -1);
        }
        demandsStay();
    }

    private static void demandsStay() {
        MixedCritKernel kernel = Checks.kernel(1, new int[] {8, 2, 4, HI});
        kernel.setExec(0, 3);
        kernel.admit();
        for (int job = 1; job <= 100; job++) {
            Checks.due("busy ticks of job " + job, kernel.run(8), 3);
            Checks.counters("job " + job, kernel, 0, job + 1, job, 0, 0, 0, 0);
        }
    }
}
