/** The tick of "Terms used below", step by step. */
final class TickTest {
    private static final int LO = Checks.LO;
    private static final int HI = Checks.HI;
    private static final int SWITCHES = MixedCritKernel.STAT_SWITCHES;
    private static final int RESETS = MixedCritKernel.STAT_RESETS;

    public static void main(String[] args) {
        idleTick();
        chosenTask();
        jobCompletes();
        completionComesBeforeBudgets();
        loJobIsAborted();
        hiJobSwitchesTheMode();
        noSwitchInHiMode();
        switchDropsLoJobs();
        onlyPendingJobsAreDropped();
        hiJobIsAborted();
        switchAndAbortInOneTick();
        timeGrowsByOne();
        boundaryAtTheNewTime();
        noJobIsCalledLate();
        noJobIsMissedAtTheBorders();
        resetWhenNothingIsPending();
        noResetWhileAJobIsPending();
        noResetInLoMode();
        releasesAtMultiplesOfThePeriod();
        loReleasesAreSkippedInHiMode();
        hiReleasesGoOnInHiMode();
        resetComesBeforeTheRelease();
        eightTasks();
        newJobsStartAnew();
        Checks.finish();
    }

    private static void idleTick() {
        Checks.sentence("If no job is pending: `STAT_IDLE` increases by 1 and lastRan becomes -1.");
        MixedCritKernel kernel = alone(4, 1, 1, LO, 1);
        kernel.run(1);
        Checks.due("lastRan after a busy tick", kernel.lastRan(), 0);
        for (int idle = 1; idle <= 3; idle++) {
            Checks.due("run(1), idle tick " + idle, kernel.run(1), 0);
            Checks.due("lastRan, idle tick " + idle, kernel.lastRan(), -1);
            Checks.stats("idle tick " + idle, kernel, 0, 0, idle, 1);
        }
        Checks.due("the job released at 4", kernel.run(1), 1);
        Checks.stats("after it", kernel, 0, 0, 3, 2);
    }

    private static void chosenTask() {
        Checks.sentence("Otherwise let i be the chosen task: lastRan becomes i, `STAT_BUSY` increases by 1, the job's"
            + " executed amount u increases by 1");
        MixedCritKernel kernel = Checks.kernel(8, new int[] {8, 2, 2, LO}, new int[] {6, 3, 3, LO});
        kernel.admit();
        int[][] ranAndDone = {{1, 0, 1}, {1, 0, 2}, {1, 0, -1}, {0, 1, -1}, {0, -1, -1}};
        for (int tick = 0; tick < ranAndDone.length; tick++) {
            String name = "tick " + tick;
            Checks.due(name + ": run(1)", kernel.run(1), 1);
            Checks.due(name + ": lastRan", kernel.lastRan(), ranAndDone[tick][0]);
            Checks.due(name + ": jobDone(0)", kernel.jobDone(0), ranAndDone[tick][1]);
            Checks.due(name + ": jobDone(1)", kernel.jobDone(1), ranAndDone[tick][2]);
            Checks.stats(name, kernel, 0, 0, 0, tick + 1);
        }
    }

    private static void jobCompletes() {
        Checks.sentence("if u == demand: `CNT_COMPLETED` of i increases by 1 and the job is no longer pending");
        for (int budget = 1; budget <= 15; budget++) {
            for (int demand = 1; demand <= budget; demand++) {
                completes(alone(16, budget, budget, LO, demand), demand);
                completes(alone(16, budget, 16, HI, demand), demand);
                completes(alone(16, 1, budget, HI, demand), demand);
            }
        }
    }

    private static void completes(MixedCritKernel kernel, int demand) {
        String name = "a job of demand " + demand;
        for (int tick = 1; tick < demand; tick++) {
            kernel.run(1);
            Checks.due(name + " is pending", kernel.jobDone(0), tick);
        }
        Checks.counters(name + " before its last tick", kernel, 0, 1, 0, 0, 0, 0, 0);
        Checks.due(name + " runs its last tick", kernel.run(1), 1);
        Checks.due(name + " is no longer pending", kernel.jobDone(0), -1);
        Checks.due(name + " completed", kernel.counter(0, MixedCritKernel.CNT_COMPLETED), 1);
        Checks.due(name + " is not aborted", kernel.counter(0, MixedCritKernel.CNT_ABORTED), 0);
    }

    private static void completionComesBeforeBudgets() {
        Checks.sentence("else if task i is LO");
        for (int budget = 1; budget <= 16; budget++) {
            ends("LO, demand = cLo", alone(16, budget, budget, LO, budget), budget, 1, 0, 0);
            ends("HI, demand = cLo", alone(16, budget, 16, HI, budget), budget, 1, 0, 0);
            ends("HI, demand = cLo = cHi", alone(16, budget, budget, HI, budget), budget, 1, 0, 0);
            ends("HI, demand = cHi", alone(16, 1, budget, HI, budget), budget, 1, 0, budget == 1 ? 0 : 1);
        }
    }

    private static void loJobIsAborted() {
        Checks.sentence("if u == `cLo`, `CNT_ABORTED` of i increases by 1 and the job is no longer pending");
        for (int cLo = 1; cLo <= 16; cLo++) {
            for (int demand : new int[] {cLo + 1, cLo + 2, 31, 32}) {
                ends("LO, demand over cLo", alone(16, cLo, cLo, LO, demand), cLo, 0, 1, 0);
            }
        }
    }

    private static void hiJobSwitchesTheMode() {
        Checks.sentence("else (task i is HI): first, if the mode is LO and u == `cLo`, the mode becomes HI,"
            + " `STAT_SWITCHES` increases by 1");
        for (int cLo = 1; cLo <= 15; cLo++) {
            for (int cHi = cLo + 1; cHi <= 16; cHi++) {
                MixedCritKernel kernel = alone(16, cLo, cHi, HI, cLo + 1);
                for (int tick = 1; tick <= cLo; tick++) {
                    Checks.due("mode before u = " + tick + ", cLo " + cLo, kernel.mode(), LO);
                    Checks.due("switches before u = " + tick + ", cLo " + cLo, kernel.stat(SWITCHES), 0);
                    kernel.run(1);
                }
                Checks.due("mode at u = cLo = " + cLo, kernel.mode(), HI);
                Checks.due("switches at u = cLo = " + cLo, kernel.stat(SWITCHES), 1);
                Checks.due("the job goes on", kernel.jobDone(0), cLo);
            }
        }
    }

    private static void noSwitchInHiMode() {
        Checks.sentence("if the mode is LO and u == `cLo`");
        MixedCritKernel kernel = Checks.kernel(2, new int[] {8, 1, 4, HI}, new int[] {8, 2, 4, HI});
        kernel.setExec(0, 4);
        kernel.setExec(1, 4);
        Checks.due("EDF", kernel.admit(), MixedCritKernel.VERDICT_EDF);
        int[] ran = {0, 0, 0, 0, 1, 1, 1, 1};
        for (int tick = 0; tick < 8; tick++) {
            Checks.ranInTurn("two overruns, tick " + tick, kernel, ran[tick]);
            Checks.due("one switch for both, tick " + tick, kernel.stat(SWITCHES), 1);
        }
        Checks.due("one reset", kernel.stat(RESETS), 1);
        Checks.counters("both completed", kernel, -1, 4, 2, 0, 0, 0, 0);
    }

    private static void switchDropsLoJobs() {
        Checks.sentence("for each LO task j in index order with a pending job, that job is no longer pending and"
            + " `CNT_DROPPED` of j increases by 1");
        MixedCritKernel kernel = Checks.kernel(5, new int[] {16, 1, 1, LO}, new int[] {8, 1, 6, HI},
            new int[] {4, 1, 1, LO}, new int[] {16, 1, 1, LO}, new int[] {16, 1, 1, HI});
        kernel.setExec(1, 6);
        // ULL = 6/16, UHL = 3/16, UHH = 13/16: 18 <= 3 * 10, so x = 3/10, keys 160, 24, 40, 160, 48.
        Checks.due("VD", kernel.admit(), MixedCritKernel.VERDICT_VD);
        Checks.ranInTurn("the switching tick", kernel, 1);
        Checks.due("mode", kernel.mode(), HI);
        Checks.counters("LO task 0", kernel, 0, 1, 0, 0, 1, 0, 0);
        Checks.counters("switching task 1", kernel, 1, 1, 0, 0, 0, 0, 0);
        Checks.counters("LO task 2", kernel, 2, 1, 0, 0, 1, 0, 0);
        Checks.counters("LO task 3", kernel, 3, 1, 0, 0, 1, 0, 0);
        Checks.counters("HI task 4", kernel, 4, 1, 0, 0, 0, 0, 0);
        int[] done = {-1, 1, -1, -1, 0};
        for (int task = 0; task < 5; task++) {
            Checks.due("job of task " + task + " after the switch", kernel.jobDone(task), done[task]);
        }
        Checks.ranInTurn("after the switch", kernel, 1, 1, 1, 1, 1, 4, -1);
    }

    private static void onlyPendingJobsAreDropped() {
        Checks.sentence("for each LO task j in index order with a pending job");
        MixedCritKernel kernel = Checks.pair();
        kernel.setExec(1, 5);
        kernel.admit();
        Checks.ranInTurn("the LO job completes first", kernel, 0, 0, 1, 1);
        Checks.due("mode", kernel.mode(), HI);
        Checks.counters("no LO job was pending", kernel, 0, 1, 1, 0, 0, 1, 0);
        MixedCritKernel without = alone(4, 1, 3, HI, 3);
        without.run(1);
        Checks.due("a switch without LO tasks", without.mode(), HI);
        Checks.counters("nothing to drop", without, -1, 1, 0, 0, 0, 0, 0);
    }

    private static void hiJobIsAborted() {
        Checks.sentence("Then, if u == `cHi`, `CNT_ABORTED` of i increases by 1 and the job is no longer pending.");
        for (int cLo = 1; cLo <= 16; cLo++) {
            for (int cHi = cLo; cHi <= 16; cHi++) {
                for (int demand : new int[] {cHi + 1, cHi + 2, 31, 32}) {
                    ends("HI, demand over cHi", alone(16, cLo, cHi, HI, demand), cHi, 0, 1, 1);
                }
            }
        }
    }

    private static void switchAndAbortInOneTick() {
        MixedCritKernel kernel = Checks.kernel(2, new int[] {4, 2, 2, HI}, new int[] {8, 2, 2, LO});
        kernel.setExec(0, 3);
        kernel.admit();
        kernel.run(2);
        Checks.counters("cLo = cHi, over both", kernel, 0, 1, 0, 1, 0, 0, 0);
        Checks.counters("LO beside it", kernel, 1, 1, 0, 0, 1, 0, 0);
        Checks.stats("nothing pending: reset at once", kernel, 1, 1, 0, 2);
        Checks.due("mode", kernel.mode(), LO);
    }

    private static void timeGrowsByOne() {
        Checks.sentence("t becomes t + 1.");
        MixedCritKernel kernel = Checks.pair();
        kernel.setExec(1, 9);
        kernel.admit();
        for (int tick = 1; tick <= 100; tick++) {
            kernel.run(1);
            Checks.due("time after tick " + tick + ", busy or idle", kernel.time(), tick);
        }
    }

    private static void boundaryAtTheNewTime() {
        Checks.sentence("at the new t:");
        MixedCritKernel kernel = alone(3, 1, 2, HI, 2);
        for (int job = 0; job < 20; job++) {
            Checks.due("r of job " + job + " is the new t", kernel.jobDeadline(0), 3 * job + 3);
            kernel.run(2);
            Checks.due("reset at " + kernel.time(), kernel.mode(), LO);
            Checks.due("no new job at " + kernel.time(), kernel.jobDone(0), -1);
            kernel.run(1);
            Checks.due("a new job at " + kernel.time(), kernel.jobDone(0), 0);
        }
    }

    /** Admission rules a miss out, so here no job is called late in its last tick; ForcedStateTest makes jobs late. */
    private static void noJobIsCalledLate() {
        Checks.sentence("for each task j in index order with a pending job whose r + T <= t: `CNT_MISSED` of j"
            + " increases by 1 and the job is no longer pending");
        for (int crit = LO; crit <= HI; crit++) {
            for (int period = 1; period <= 16; period++) {
                MixedCritKernel kernel = alone(period, period, period, crit, period);
                for (int time = 1; time <= 3 * period; time++) {
                    kernel.run(1);
                    Checks.due("pending until r + T, at " + time, kernel.jobDone(0), time % period);
                }
                Checks.counters("a job as long as its period", kernel, 0, 4, 3, 0, 0, 0, 0);
            }
        }
    }

    private static void noJobIsMissedAtTheBorders() {
        int[][][] sets = {
            {{2, 1, 1, LO}, {4, 1, 3, HI}}, {{3, 1, 1, LO}, {13, 4, 11, HI}}, {{15, 14, 14, LO}, {16, 1, 2, HI}},
            {{16, 8, 8, LO}, {2, 1, 1, HI}}, {{13, 1, 1, LO}, {13, 4, 12, HI}}, {{16, 7, 7, LO}, {16, 9, 9, HI}}};
        for (int[][] set : sets) {
            for (int demand = 1; demand <= 32; demand++) {
                MixedCritKernel kernel = Checks.kernel(2, set);
                kernel.setExec(1, demand);
                kernel.setExec(0, 33 - demand);
                kernel.admit();
                kernel.run(1000);
                Checks.due("missed", kernel.counter(-1, MixedCritKernel.CNT_MISSED), 0);
            }
        }
        MixedCritKernel full = Checks.kernel(2, new int[] {16, 8, 8, LO}, new int[] {2, 1, 1, HI});
        full.admit();
        Checks.due("no idle tick", full.run(1000), 1000);
        Checks.counters("LO jobs in time", full, 0, 63, 62, 0, 0, 0, 0);
        Checks.counters("HI jobs in time", full, 1, 501, 500, 0, 0, 0, 0);
    }

    private static void resetWhenNothingIsPending() {
        Checks.sentence("if the mode is HI and no job of any task is pending: the mode becomes LO and `STAT_RESETS`"
            + " increases by 1");
        MixedCritKernel kernel = Checks.pair();
        kernel.setExec(1, 5);
        kernel.admit();
        int[] modes = {LO, LO, LO, HI, HI, HI, LO, LO};
        int[] resets = {0, 0, 0, 0, 0, 0, 1, 1};
        for (int tick = 0; tick < modes.length; tick++) {
            kernel.run(1);
            Checks.due("mode at " + kernel.time(), kernel.mode(), modes[tick]);
            Checks.due("resets at " + kernel.time(), kernel.stat(RESETS), resets[tick]);
        }
    }

    private static void noResetWhileAJobIsPending() {
        Checks.sentence("and no job of any task is pending");
        MixedCritKernel kernel = Checks.kernel(3, new int[] {8, 1, 2, HI}, new int[] {8, 1, 2, HI},
            new int[] {8, 1, 2, HI});
        kernel.setExec(0, 2);
        kernel.admit();
        int[] modes = {HI, HI, HI, LO};
        for (int tick = 0; tick < modes.length; tick++) {
            kernel.run(1);
            Checks.due("mode at " + kernel.time(), kernel.mode(), modes[tick]);
        }
        MixedCritKernel aborting = Checks.kernel(2, new int[] {4, 2, 2, HI}, new int[] {8, 2, 2, HI});
        aborting.setExec(0, 3);
        aborting.admit();
        aborting.run(2);
        Checks.due("switched and aborted, but another job is pending", aborting.mode(), HI);
        Checks.due("no reset", aborting.stat(RESETS), 0);
    }

    private static void noResetInLoMode() {
        Checks.sentence("if the mode is HI and no job");
        MixedCritKernel kernel = alone(16, 1, 2, HI, 1);
        kernel.run(1000);
        Checks.stats("idle ticks in LO mode", kernel, 0, 0, 937, 63);
    }

    private static void releasesAtMultiplesOfThePeriod() {
        Checks.sentence("for each task j in index order with `t % T == 0`");
        for (int period = 1; period <= 16; period++) {
            MixedCritKernel kernel = alone(period, 1, 1, LO, 1);
            for (int time = 0; time <= 100; time++) {
                Checks.due("released by " + time + ", period " + period,
                    kernel.counter(0, MixedCritKernel.CNT_RELEASED), time / period + 1);
                Checks.due("job at " + time + ", period " + period, kernel.jobDone(0), time % period == 0 ? 0 : -1);
                kernel.run(1);
            }
        }
    }

    private static void loReleasesAreSkippedInHiMode() {
        Checks.sentence("if the mode is HI and task j is LO, `CNT_SKIPPED` of j increases by 1 and no job is released");
        MixedCritKernel kernel = Checks.kernel(2, new int[] {2, 1, 1, LO}, new int[] {16, 1, 8, HI});
        kernel.setExec(1, 8);
        kernel.admit();
        Checks.ranInTurn("a LO job, then the HI job", kernel, 0);
        // The switch in the tick at 1 comes before the boundary at 2; the HI job ends in the tick at 8.
        for (int time = 2; time <= 9; time++) {
            Checks.ranInTurn("HI job up to " + time, kernel, 1);
            Checks.due("mode at " + time, kernel.mode(), time < 9 ? HI : LO);
            Checks.counters("LO task at " + time, kernel, 0, 1, 1, 0, 0, time / 2, 0);
            Checks.due("no LO job at " + time, kernel.jobDone(0), -1);
        }
        Checks.ranInTurn("idle up to 10", kernel, -1);
        Checks.counters("LO task at 10", kernel, 0, 2, 1, 0, 0, 4, 0);
        Checks.due("a LO job at 10", kernel.jobDone(0), 0);
    }

    private static void hiReleasesGoOnInHiMode() {
        Checks.sentence("otherwise `CNT_RELEASED` of j increases by 1");
        MixedCritKernel kernel = Checks.kernel(3, new int[] {16, 2, 10, HI}, new int[] {4, 1, 1, HI},
            new int[] {8, 1, 1, LO});
        kernel.setExec(0, 10);
        // ULL = 2/16, UHL = 6/16, UHH = 14/16: ULL + UHH = L.
        Checks.due("EDF", kernel.admit(), MixedCritKernel.VERDICT_EDF);
        Checks.ranInTurn("HI releases", kernel, 1, 2, 0, 0, 1, 0, 0, 0, 1, 0, 0, 0);
        Checks.due("mode at 12", kernel.mode(), HI);
        Checks.counters("HI task 1", kernel, 1, 4, 3, 0, 0, 0, 0);
        Checks.counters("LO task 2", kernel, 2, 1, 1, 0, 0, 1, 0);
    }

    private static void resetComesBeforeTheRelease() {
        Checks.sentence("One tick at current time t consists of exactly these steps, in this order");
        MixedCritKernel kernel = Checks.kernel(2, new int[] {2, 1, 1, LO}, new int[] {4, 1, 3, HI});
        kernel.setExec(1, 3);
        kernel.admit();
        // The HI job ends in the very tick before the release at 4.
        Checks.ranInTurn("HI job up to the boundary", kernel, 0, 1, 1, 1);
        Checks.due("reset at 4", kernel.mode(), LO);
        Checks.counters("LO release at 2 skipped, at 4 done", kernel, 0, 2, 1, 0, 0, 1, 0);
        Checks.counters("HI release at 4 done", kernel, 1, 2, 1, 0, 0, 0, 0);
    }

    private static void newJobsStartAnew() {
        Checks.sentence("a new job of j is pending with r = t, executed amount 0, and demand equal to the current e"
            + " of j");
        MixedCritKernel kernel = alone(5, 2, 4, HI, 1);
        int demand = 1;
        for (int job = 1; job <= 40; job++) {
            Checks.due("busy ticks of the job before " + job, kernel.run(4), Math.min(demand, 4));
            demand = 1 + job % 6;
            kernel.setExec(0, demand);
            kernel.run(1);
            Checks.due("executed amount of job " + job, kernel.jobDone(0), 0);
            Checks.due("release of job " + job, kernel.jobDeadline(0), 5L * job + 5);
            kernel.setExec(0, 32);
        }
    }

    private static void eightTasks() {
        MixedCritKernel kernel = new MixedCritKernel(8);
        for (int task = 0; task < 8; task++) {
            kernel.addTask(16, 1, 2, task % 2);
        }
        kernel.setExec(1, 2);
        Checks.due("EDF", kernel.admit(), MixedCritKernel.VERDICT_EDF);
        Checks.ranInTurn("eight tasks", kernel, 0, 1, 1, 3, 5, 7, -1);
        Checks.counters("completed and dropped", kernel, -1, 8, 5, 0, 3, 0, 0);
        kernel.run(9);
        Checks.due("all released at 16", kernel.counter(-1, MixedCritKernel.CNT_RELEASED), 16);
    }

    /** The first job of the only task is busy for so many ticks, and ends so, with so many switches and resets. */
    private static void ends(String name, MixedCritKernel kernel, int ticks, int completed, int aborted, int switches) {
        for (int tick = 1; tick < ticks; tick++) {
            kernel.run(1);
            Checks.due(name + ", pending after " + tick + " of " + ticks, kernel.jobDone(0), tick);
            Checks.counters(name + ", pending", kernel, 0, 1, 0, 0, 0, 0, 0);
        }
        kernel.run(1);
        int released = ticks == 16 ? 2 : 1;
        Checks.counters(name + ", after " + ticks, kernel, 0, released, completed, aborted, 0, 0, 0);
        Checks.due(name + ", job after " + ticks, kernel.jobDone(0), ticks == 16 ? 0 : -1);
        Checks.stats(name + ", after " + ticks, kernel, switches, switches, 0, ticks);
        Checks.due(name + ", mode after " + ticks, kernel.mode(), LO);
    }

    /** A kernel with one task of this demand, admitted. */
    private static MixedCritKernel alone(int period, int cLo, int cHi, int crit, int demand) {
        MixedCritKernel kernel = Checks.kernel(1, new int[] {period, cLo, cHi, crit});
        kernel.setExec(0, demand);
        kernel.admit();
        return kernel;
    }
}
