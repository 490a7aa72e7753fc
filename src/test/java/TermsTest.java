/** "What it is" and "Terms used below", but for the admission rules and the tick. */
final class TermsTest {
    private static final int LO = Checks.LO;
    private static final int HI = Checks.HI;

    public static void main(String[] args) {
        onePeriodicJobAtATime();
        eightTasksAtMost();
        eachTaskHasItsOwn();
        factorByTheRules();
        tickByTick();
        leastCommonMultiple();
        mostSteps();
        indicesOfSuccessfulCalls();
        whatATaskHas();
        loTaskHasOneBudget();
        firstDemand();
        releasesAtMultiples();
        whatAJobStartsWith();
        atMostOnePendingJob();
        commonDenominator();
        sumOfLoTasks();
        sumOfHiTasksInLo();
        sumOfHiTasksInHi();
        sumOverNoTasks();
        keysAreLong();
        keyOfHiTaskInLoMode();
        keyOtherwise();
        leastKeyFirst();
        equalKeysToTheLowestIndex();
        modeAtTheStart();
        refusedCallsChangeNothing();
        Checks.finish();
    }

    private static void onePeriodicJobAtATime() {
        Checks.sentence("MixedCritKernel is a uniprocessor kernel for dual-criticality, implicit-deadline, periodic"
            + " tasks.");
        MixedCritKernel kernel = Checks.kernel(3, new int[] {6, 2, 2, LO}, new int[] {4, 1, 2, HI},
            new int[] {12, 2, 2, HI});
        Checks.due("EDF", kernel.admit(), MixedCritKernel.VERDICT_EDF);
        int[] periods = {6, 4, 12};
        for (int time = 0; time < 48; time++) {
            int[] before = {kernel.jobDone(0), kernel.jobDone(1), kernel.jobDone(2)};
            for (int task = 0; task < 3; task++) {
                long deadline = (time / periods[task] + 1) * periods[task];
                Checks.due("deadline of " + task + " at " + time, kernel.jobDeadline(task),
                    before[task] < 0 ? -1 : deadline);
            }
            kernel.run(1);
            for (int task = 0; task < 3; task++) {
                boolean waits = before[task] >= 0 && task != kernel.lastRan();
                Checks.due("task " + task + " waits at " + time, waits && kernel.jobDone(task) != before[task], false);
            }
        }
        Checks.stats("48 ticks", kernel, 0, 0, 12, 36);
    }

    private static void eightTasksAtMost() {
        Checks.sentence("Up to 8 tasks can be added, each with a period from 1 to 16");
        for (int period : new int[] {1, 16}) {
            MixedCritKernel kernel = new MixedCritKernel(Integer.MAX_VALUE);
            for (int task = 0; task < 12; task++) {
                Checks.due("period 0", kernel.addTask(0, 1, 1, task % 2), -1);
                Checks.due("period 17", kernel.addTask(17, 1, 1, task % 2), -1);
                Checks.due("task " + task, kernel.addTask(period, 1, 1, task % 2), task < 8 ? task : -1);
            }
        }
    }

    private static void eachTaskHasItsOwn() {
        Checks.sentence("a criticality (LO or HI), a LO budget `cLo`, a HI budget `cHi` and a per-task demand `e`.");
        MixedCritKernel kernel = Checks.kernel(6, new int[] {16, 1, 9, LO}, new int[] {16, 2, 9, LO},
            new int[] {16, 1, 1, HI}, new int[] {16, 1, 3, HI}, new int[] {16, 2, 4, HI}, new int[] {16, 3, 5, HI});
        kernel.setExec(1, 4);
        kernel.setExec(3, 2);
        kernel.setExec(4, 9);
        kernel.setExec(5, 2);
        Checks.due("EDF", kernel.admit(), MixedCritKernel.VERDICT_EDF);
        // Demands 1, 4, 1, 2, 9 and 2 against budgets 1, 2, 1, 3, 4 and 5.
        Checks.ranInTurn("each to its own end", kernel, 0, 1, 1, 2, 3, 3, 4, 4, 4, 4, 5, 5, -1);
        for (int task = 0; task < 6; task++) {
            int aborted = task == 1 || task == 4 ? 1 : 0;
            Checks.counters("task " + task, kernel, task, 1, 1 - aborted, aborted, 0, 0, 0);
        }
    }

    private static void factorByTheRules() {
        Checks.sentence("Admission uses the rules of EDF with virtual deadlines (EDF-VD), with all arithmetic exact,"
            + " giving a scaling factor x kept in lowest terms as `xNum / xDen`.");
        int[][][] sets = {
            {{4, 2, 2, LO}, {8, 2, 5, HI}}, {{16, 8, 8, LO}, {16, 1, 9, HI}}, {{3, 1, 1, LO}, {13, 4, 11, HI}},
            {{4, 1, 1, LO}, {4, 1, 2, HI}}, {{2, 1, 1, LO}, {7, 3, 5, HI}}};
        int[][] factors = {{1, 2}, {1, 8}, {6, 13}, {1, 1}, {0, 0}};
        for (int set = 0; set < sets.length; set++) {
            MixedCritKernel kernel = Checks.kernel(2, sets[set]);
            kernel.admit();
            Checks.due("xNum of set " + set, kernel.xNum(), factors[set][0]);
            Checks.due("xDen of set " + set, kernel.xDen(), factors[set][1]);
        }
    }

    private static void tickByTick() {
        Checks.sentence("Once admitted, the kernel simulates the schedule tick by tick, with switches between LO and"
            + " HI mode, and keeps per-task and system counters.");
        MixedCritKernel kernel = Checks.pair();
        kernel.setExec(1, 5);
        kernel.admit();
        int[] ran = {0, 0, 1, 1, 1, 1, 1, -1};
        int[] modeAfter = {LO, LO, LO, HI, HI, HI, LO, LO};
        for (int time = 0; time < 800; time++) {
            Checks.ranInTurn("at " + time, kernel, ran[time % 8]);
            Checks.due("mode after the tick at " + time, kernel.mode(), modeAfter[time % 8]);
        }
        // The LO release in the middle of every eight ticks is skipped.
        Checks.counters("LO task", kernel, 0, 101, 100, 0, 0, 100, 0);
        Checks.counters("HI task", kernel, 1, 101, 100, 0, 0, 0, 0);
        Checks.stats("800 ticks", kernel, 100, 100, 100, 700);
    }

    private static void leastCommonMultiple() {
        Checks.sentence("`UTIL_DEN = 720720` (the least common multiple of 1..16)");
        int multiple = 1;
        for (int period = 1; period <= 16; period++) {
            multiple = multiple / gcd(multiple, period) * period;
            Checks.due("one tick in " + period,
                period * Checks.kernel(1, new int[] {period, 1, 1, LO}).utilNum(0), MixedCritKernel.UTIL_DEN);
        }
        Checks.due("UTIL_DEN", MixedCritKernel.UTIL_DEN, multiple);
    }

    private static int gcd(int one, int other) {
        return java.math.BigInteger.valueOf(one).gcd(java.math.BigInteger.valueOf(other)).intValue();
    }

    private static void mostSteps() {
        Checks.sentence("`MAX_STEPS = 1000`, the largest number of ticks one `run` call may ask for.");
        Checks.due("MAX_STEPS", MixedCritKernel.MAX_STEPS, 1000);
        MixedCritKernel kernel = Checks.kernel(1, new int[] {1, 1, 1, LO});
        kernel.admit();
        Checks.due("run(1000)", kernel.run(1000), 1000);
        Checks.due("run(1001)", kernel.run(1001), -1);
        Checks.due("time", kernel.time(), 1000);
    }

    private static void indicesOfSuccessfulCalls() {
        Checks.sentence("Task i (i = 0, 1, ... in the order of successful `addTask` calls)");
        MixedCritKernel kernel = new MixedCritKernel(4);
        for (int task = 0; task < 4; task++) {
            Checks.due("a refused call before task " + task, kernel.addTask(15, 16, 16, LO), -1);
            Checks.due("task " + task, kernel.addTask(10 + task, 1, 1, LO), task);
        }
        Checks.due("a call too many", kernel.addTask(15, 1, 1, LO), -1);
        kernel.admit();
        for (int task = 0; task < 4; task++) {
            Checks.due("the period of task " + task, kernel.jobDeadline(task), 10 + task);
        }
    }

    private static void whatATaskHas() {
        Checks.sentence("has a period T (1..16), a criticality LO or HI, a budget `cLo`, a budget `cHi`");
        for (int period = 1; period <= 16; period++) {
            for (int cLo = 1; cLo <= period; cLo++) {
                for (int cHi = cLo; cHi <= period; cHi++) {
                    overrunning(period, cLo, cHi, LO);
                    overrunning(period, cLo, cHi, HI);
                }
            }
        }
    }

    /** A task alone whose jobs ask for more than any budget: the budgets end them. */
    private static void overrunning(int period, int cLo, int cHi, int crit) {
        String name = "task (" + period + ", " + cLo + ", " + cHi + ", " + crit + ")";
        MixedCritKernel kernel = Checks.kernel(1, new int[] {period, cLo, cHi, crit});
        kernel.setExec(0, 32);
        kernel.admit();
        Checks.due(name + ": period", kernel.jobDeadline(0), period);
        Checks.due(name + ": no switch before cLo", cLo > 1 && kernel.run(cLo - 1) >= 0 && kernel.mode() == HI, false);
        kernel.run(1);
        Checks.due(name + ": switches at cLo", kernel.stat(MixedCritKernel.STAT_SWITCHES), crit);
        kernel.run(2 * period - cLo);
        int budget = crit == LO ? cLo : cHi;
        Checks.due(name + ": busy in two periods", kernel.stat(MixedCritKernel.STAT_BUSY), 2 * budget);
        Checks.counters(name, kernel, 0, 3, 0, 2, 0, 0, 0);
    }

    private static void loTaskHasOneBudget() {
        Checks.sentence("(for a LO task `cHi = cLo`)");
        for (int cHi = 0; cHi <= 8; cHi++) {
            MixedCritKernel kernel = Checks.kernel(1, new int[] {8, 3, cHi, LO});
            kernel.setExec(0, 32);
            kernel.admit();
            Checks.due("busy ticks with cHi " + cHi, kernel.run(7), 3);
            Checks.counters("cHi " + cHi, kernel, 0, 1, 0, 1, 0, 0, 0);
        }
    }

    private static void firstDemand() {
        Checks.sentence("and a demand e (1..32, initially `cLo`, changed by `setExec`)");
        MixedCritKernel kernel = Checks.kernel(1, new int[] {16, 5, 9, HI});
        kernel.admit();
        Checks.due("initially cLo", kernel.run(16), 5);
        int[][] demandAndBusy = {{1, 1}, {0, 1}, {8, 8}, {33, 8}, {32, 9}, {-1, 9}};
        for (int[] pair : demandAndBusy) {
            kernel.setExec(0, pair[0]);
            // The job that is pending now keeps its demand; the next one has the new demand.
            kernel.run(16);
            Checks.due("after setExec " + pair[0], kernel.run(16), pair[1]);
        }
    }

    private static void releasesAtMultiples() {
        Checks.sentence("Task i releases a job at every time t with `t % T == 0`, subject to the mode (see The tick).");
        releasesOf(1);
        releasesOf(2, 3, 7);
        releasesOf(4, 5, 6, 8);
        releasesOf(9, 10, 11, 12, 13, 14, 15, 16);
    }

    private static void releasesOf(int... periods) {
        MixedCritKernel kernel = new MixedCritKernel(8);
        for (int task = 0; task < periods.length; task++) {
            kernel.addTask(periods[task], 1, 1, task % 2);
        }
        kernel.admit();
        for (int time = 0; time <= 300; time++) {
            for (int task = 0; task < periods.length; task++) {
                Checks.due("releases of task " + task + " by " + time,
                    kernel.counter(task, MixedCritKernel.CNT_RELEASED), time / periods[task] + 1);
            }
            kernel.run(1);
        }
    }

    private static void whatAJobStartsWith() {
        Checks.sentence("The job's release is r = t, its real deadline is r + T, its demand is the value of e at the"
            + " release, and its executed amount u starts at 0.");
        for (int period = 1; period <= 16; period++) {
            MixedCritKernel kernel = Checks.kernel(1, new int[] {period, period, period, LO});
            kernel.admit();
            for (int job = 0; job < 20; job++) {
                Checks.due("u of job " + job, kernel.jobDone(0), 0);
                Checks.due("deadline of job " + job, kernel.jobDeadline(0), (job + 1L) * period);
                int next = 1 + job % period;
                kernel.setExec(0, next);
                int demand = job == 0 ? period : 1 + (job - 1) % period;
                Checks.due("demand of job " + job + ", period " + period, kernel.run(period), demand);
            }
        }
    }

    private static void atMostOnePendingJob() {
        Checks.sentence("Each task has at most one pending job.");
        int[][][] sets = {
            {{1, 1, 1, LO}}, {{1, 1, 1, HI}}, {{2, 1, 1, LO}, {4, 1, 3, HI}}, {{4, 2, 2, LO}, {8, 2, 5, HI}},
            {{16, 8, 8, LO}, {2, 1, 1, HI}}, {{15, 14, 14, LO}, {16, 1, 2, HI}}};
        for (int[][] set : sets) {
            MixedCritKernel kernel = Checks.kernel(8, set);
            for (int task = 0; task < set.length; task++) {
                kernel.setExec(task, 32);
            }
            kernel.admit();
            for (int tick = 0; tick < 200; tick++) {
                kernel.run(1);
                for (int task = 0; task < set.length; task++) {
                    int left = kernel.counter(task, 0) - kernel.counter(task, 1) - kernel.counter(task, 2)
                        - kernel.counter(task, 3) - kernel.counter(task, 5);
                    Checks.due("jobs left at " + kernel.time(), left, kernel.jobDone(task) >= 0 ? 1 : 0);
                }
            }
        }
    }

    private static void commonDenominator() {
        Checks.sentence("With L = `UTIL_DEN` = 720720:");
        Checks.due("UTIL_DEN", MixedCritKernel.UTIL_DEN, 720720);
        Checks.due("a full LO task", Checks.kernel(1, new int[] {13, 13, 13, LO}).utilNum(0), 720720);
        Checks.due("a full HI task", Checks.kernel(1, new int[] {11, 11, 11, HI}).utilNum(1), 720720);
    }

    private static void sumOfLoTasks() {
        Checks.sentence("- ULL = sum over LO tasks of `cLo * (720720 / T)`");
        sums(MixedCritKernel.UTIL_LO_LO, LO, 1);
    }

    private static void sumOfHiTasksInLo() {
        Checks.sentence("- UHL = sum over HI tasks of `cLo * (720720 / T)`");
        sums(MixedCritKernel.UTIL_HI_LO, HI, 1);
    }

    private static void sumOfHiTasksInHi() {
        Checks.sentence("- UHH = sum over HI tasks of `cHi * (720720 / T)`");
        sums(MixedCritKernel.UTIL_HI_HI, HI, 2);
    }

    /** The sum over the tasks of this criticality; the budget is the second or the third number of a task. */
    private static void sums(int kind, int crit, int budget) {
        for (int first = 1; first <= 16; first++) {
            MixedCritKernel kernel = new MixedCritKernel(8);
            int sum = 0;
            for (int i = 0; i < 8; i++) {
                int period = 1 + (first + 5 * i) % 16;
                int cLo = 1 + (first + i) % period;
                int[] task = {period, cLo, cLo + (period - cLo) / 2, (first + i / 2 + i) % 2};
                kernel.addTask(task[0], task[1], task[2], task[3]);
                sum += task[3] == crit ? task[budget] * (720720 / period) : 0;
                Checks.due("kind " + kind + ", " + (i + 1) + " tasks from " + first, kernel.utilNum(kind), sum);
            }
        }
    }

    private static void sumOverNoTasks() {
        Checks.sentence("A sum over no tasks is 0.");
        MixedCritKernel none = new MixedCritKernel(1);
        MixedCritKernel lo = Checks.kernel(1, new int[] {1, 1, 1, LO});
        MixedCritKernel hi = Checks.kernel(1, new int[] {1, 1, 1, HI});
        int[][] sums = {{0, 0, 0}, {720720, 0, 0}, {0, 720720, 720720}};
        for (int kind = 0; kind < 3; kind++) {
            Checks.due("no tasks, kind " + kind, none.utilNum(kind), sums[0][kind]);
            Checks.due("a LO task alone, kind " + kind, lo.utilNum(kind), sums[1][kind]);
            Checks.due("a HI task alone, kind " + kind, hi.utilNum(kind), sums[2][kind]);
        }
    }

    private static void keysAreLong() {
        Checks.sentence("of the pending job of task i (period T, release r), a `long`:");
        // x = 21060 / 42119: the keys are beyond int from time 51000 on.
        MixedCritKernel kernel = Checks.kernel(6, new int[] {10, 1, 1, LO}, new int[] {15, 2, 2, LO},
            new int[] {13, 1, 1, LO}, new int[] {9, 2, 2, LO}, new int[] {7, 1, 2, HI}, new int[] {11, 1, 2, HI});
        kernel.admit();
        int[] periods = {10, 15, 13, 9, 7, 11};
        for (int call = 0; call < 200; call++) {
            kernel.run(900 + call % 7);
            for (int task = 0; task < 6; task++) {
                long release = kernel.time() / periods[task] * periods[task];
                long real = (release + periods[task]) * 42119;
                long key = task < 4 ? real : release * 42119 + 21060 * periods[task];
                Checks.due("key of " + task + " at " + kernel.time(), kernel.jobDeadline(task),
                    kernel.jobDone(task) < 0 ? -1 : key);
            }
        }
    }

    private static void keyOfHiTaskInLoMode() {
        Checks.sentence("if task i is HI and the mode is LO: `r * xDen + xNum * T` (the virtual deadline, times xDen)");
        // x = 15/16, the HI task's virtual deadline is r + 15.
        MixedCritKernel kernel = Checks.kernel(2, new int[] {15, 14, 14, LO}, new int[] {16, 1, 2, HI});
        kernel.admit();
        Checks.due("HI at 0", kernel.jobDeadline(1), 15 * 16);
        kernel.run(16);
        Checks.due("mode at 16", kernel.mode(), LO);
        Checks.due("HI at 16", kernel.jobDeadline(1), 16 * 16 + 15 * 16);
        // x = 4/7 and T = 7: the virtual deadline is no whole multiple of xDen.
        MixedCritKernel sevenths = Checks.kernel(2, new int[] {2, 1, 1, LO}, new int[] {7, 2, 4, HI});
        sevenths.admit();
        Checks.due("HI at 0, sevenths", sevenths.jobDeadline(1), 28);
        sevenths.run(7);
        Checks.due("HI at 7, sevenths", sevenths.jobDeadline(1), 7 * 7 + 28);
    }

    private static void keyOtherwise() {
        Checks.sentence("otherwise: `(r + T) * xDen` (the real deadline, times xDen)");
        MixedCritKernel kernel = Checks.kernel(2, new int[] {2, 1, 1, LO}, new int[] {7, 2, 4, HI});
        kernel.setExec(1, 4);
        kernel.admit();
        Checks.due("LO in LO mode", kernel.jobDeadline(0), 2 * 7);
        Checks.ranInTurn("up to the switch", kernel, 0, 1);
        Checks.due("LO at 2", kernel.jobDeadline(0), 4 * 7);
        Checks.due("HI in LO mode", kernel.jobDeadline(1), 28);
        // Both keys are 28 now: the LO task goes first, and the HI job has its second tick, the switch, at 3.
        Checks.ranInTurn("up to the switch", kernel, 0, 1);
        Checks.due("mode", kernel.mode(), HI);
        Checks.due("HI in HI mode", kernel.jobDeadline(1), 7 * 7);
    }

    private static void leastKeyFirst() {
        Checks.sentence("Dispatch picks the pending job with the least key");
        MixedCritKernel real = Checks.kernel(3, new int[] {12, 4, 4, LO}, new int[] {6, 2, 2, LO},
            new int[] {4, 1, 1, LO});
        real.admit();
        // At 6 the jobs of tasks 0 and 1 both have key 12, and at 8 those of tasks 1 and 2.
        Checks.ranInTurn("least key", real, 2, 1, 1, 0, 2, 0, 0, 0, 1, 1, 2, -1, 2);
        // x = (1/8) / (1/2) = 1/4: the HI task's virtual deadline is 4, below the 6 of the LO task.
        MixedCritKernel virtual = Checks.kernel(2, new int[] {6, 3, 3, LO}, new int[] {16, 2, 10, HI});
        Checks.due("VD", virtual.admit(), MixedCritKernel.VERDICT_VD);
        Checks.ranInTurn("virtual deadline", virtual, 1, 1, 0, 0, 0, -1, 0);
    }

    private static void equalKeysToTheLowestIndex() {
        Checks.sentence("among equal keys, the one of the lowest task index");
        MixedCritKernel kernel = Checks.kernel(3, new int[] {6, 2, 2, LO}, new int[] {6, 1, 1, HI},
            new int[] {6, 1, 1, LO});
        kernel.admit();
        Checks.ranInTurn("equal periods", kernel, 0, 0, 1, 2, -1, -1, 0);
        // x = 1/2: the virtual deadline of the HI task is the real one of the LO task.
        MixedCritKernel loFirst = Checks.kernel(2, new int[] {4, 2, 2, LO}, new int[] {8, 2, 5, HI});
        loFirst.admit();
        Checks.ranInTurn("LO before HI", loFirst, 0, 0, 1, 1, 0);
        MixedCritKernel hiFirst = Checks.kernel(2, new int[] {8, 2, 5, HI}, new int[] {4, 2, 2, LO});
        hiFirst.admit();
        Checks.ranInTurn("HI before LO", hiFirst, 0, 0, 1, 1, 1);
        MixedCritKernel eight = new MixedCritKernel(8);
        for (int task = 0; task < 8; task++) {
            eight.addTask(8, 1, 1, LO);
        }
        eight.admit();
        Checks.ranInTurn("eight equal keys", eight, 0, 1, 2, 3, 4, 5, 6, 7, 0);
    }

    private static void modeAtTheStart() {
        Checks.sentence("The kernel mode is LO or HI. It is LO on a fresh object and right after a successful"
            + " admission.");
        for (Twins.Start start : Twins.NOT_ADMITTED) {
            MixedCritKernel kernel = start.make().get();
            Checks.due("mode, " + start.name(), kernel.mode(), LO);
            kernel.admit();
            Checks.due("mode after admit, " + start.name(), kernel.mode(), LO);
        }
    }

    private static void refusedCallsChangeNothing() {
        Checks.sentence("A refused call answers as stated and changes nothing at all.");
        Twins.refused(Twins.ALL, "every call that is always refused", 0, TermsTest::wronglyAnswered);
        Twins.refused(Twins.ADMITTED, "every call that admission ends", 0, kernel ->
            (kernel.addTask(16, 1, 1, LO) == -1 ? 0 : 1) + (kernel.addTask(16, 1, 1, HI) == -1 ? 0 : 1)
            + (kernel.admit() == -1 ? 0 : 1));
        Twins.refused(Twins.NOT_ADMITTED, "every run before admission", 0, kernel ->
            (kernel.run(1) == -1 ? 0 : 1) + (kernel.run(1000) == -1 ? 0 : 1));
        betweenTicks();
    }

    /** Refused calls between all ticks of a long run, beside a twin that is spared them. */
    private static void betweenTicks() {
        MixedCritKernel kernel = Checks.pair();
        MixedCritKernel spared = Checks.pair();
        kernel.admit();
        spared.admit();
        for (int tick = 0; tick < 200; tick++) {
            Checks.due("refused calls before tick " + tick, wronglyAnswered(kernel), 0);
            Checks.due("admit before tick " + tick, kernel.admit(), -1);
            Checks.due("addTask before tick " + tick, kernel.addTask(16, 1, 1, tick % 2), -1);
            kernel.setExec(tick % 2, 1 + tick % 7);
            spared.setExec(tick % 2, 1 + tick % 7);
            Checks.due("tick " + tick, kernel.run(1), spared.run(1));
            Checks.same("after tick " + tick, Checks.state(kernel), Checks.state(spared));
        }
    }

    /** How many calls that are refused in every state answer otherwise than as stated. */
    private static int wronglyAnswered(MixedCritKernel kernel) {
        int wrong = 0;
        for (int value : new int[] {Integer.MIN_VALUE, -2, 1001, Integer.MAX_VALUE}) {
            long[] answers = {
                kernel.addTask(value, 1, 1, LO), kernel.addTask(16, value, 16, HI), kernel.addTask(16, 1, value, HI),
                kernel.addTask(16, 1, 1, value), kernel.run(value), kernel.utilNum(value), kernel.jobDone(value),
                kernel.jobDeadline(value), kernel.counter(value, 0), kernel.counter(-1, value), kernel.stat(value),
                kernel.setExec(value, 1) ? 1 : -1, kernel.setExec(0, value) ? 1 : -1};
            for (long answer : answers) {
                wrong += answer == -1 ? 0 : 1;
            }
        }
        return wrong;
    }
}
