/** A uniprocessor kernel that admits (EDF-VD) and runs periodic tasks of two criticalities. */
public final class MixedCritKernel {
    public static final int LO = 0;
    public static final int HI = 1;
    public static final int VERDICT_REFUSED = -1;
    public static final int VERDICT_REJECT = 0;
    public static final int VERDICT_EDF = 1;
    public static final int VERDICT_VD = 2;
    public static final int UTIL_DEN = 720720;
    public static final int UTIL_LO_LO = 0;
    public static final int UTIL_HI_LO = 1;
    public static final int UTIL_HI_HI = 2;
    public static final int CNT_RELEASED = 0;
    public static final int CNT_COMPLETED = 1;
    public static final int CNT_ABORTED = 2;
    public static final int CNT_DROPPED = 3;
    public static final int CNT_SKIPPED = 4;
    public static final int CNT_MISSED = 5;
    public static final int STAT_SWITCHES = 0;
    public static final int STAT_RESETS = 1;
    public static final int STAT_IDLE = 2;
    public static final int STAT_BUSY = 3;
    public static final int MAX_STEPS = 1000;

    private static final int MAX_TASKS = 8;
    private static final int MAX_PERIOD = 16;
    private static final int MAX_DEMAND = 32;
    private static final int STAT_KINDS = 4;
    private static final int CNT_KINDS = 6;
    // CNT_KINDS times MAX_TASKS.
    private static final int CNT_CELLS = 48;
    private static final int ALL_TASKS = -1;
    private static final int NO_TASK = -1;
    private static final int REFUSED = -1;
    // Euclid needs fewer than 40 rounds for numbers up to UTIL_DEN.
    private static final int GCD_ROUNDS = 1000;

    private final int capacity;
    private int tasks = 0;
    private boolean admitted = false;
    // A long, so that deadlines near the greatest int still compare rightly.
    private long now = 0;
    private int currentMode = LO;
    private int lastTask = NO_TASK;
    private int factorNum = 0;
    private int factorDen = 0;

    // The period of every added task is 1 or more, so it may divide.
    private final int[] periods = new int[MAX_TASKS];
    private final int[] criticality = new int[MAX_TASKS];
    private final int[] budgetLo = new int[MAX_TASKS];
    private final int[] budgetHi = new int[MAX_TASKS];
    private final int[] nextDemand = new int[MAX_TASKS];

    private final boolean[] pending = new boolean[MAX_TASKS];
    private final long[] release = new long[MAX_TASKS];
    private final int[] executed = new int[MAX_TASKS];
    private final int[] jobDemand = new int[MAX_TASKS];

    // One row of MAX_TASKS cells for each kind.
    private final int[] counters = new int[CNT_CELLS];
    private final int[] stats = new int[STAT_KINDS];

    public MixedCritKernel(int capacity) {
        this.capacity = clampCapacity(capacity);
    }

    public int addTask(int period, int cLo, int cHi, int crit) {
        if (admitted || tasks >= capacity || !isTask(period, cLo, cHi, crit)) {
            return REFUSED;
        }
        int task = tasks;
        periods[task] = period;
        criticality[task] = crit;
        budgetLo[task] = cLo;
        budgetHi[task] = crit == HI ? cHi : cLo;
        nextDemand[task] = cLo;
        tasks = task + 1;
        return task;
    }

    public boolean setExec(int task, int demand) {
        if (!isAdded(task) || demand < 1 || demand > MAX_DEMAND) {
            return false;
        }
        nextDemand[task] = demand;
        return true;
    }

    public int taskCount() {
        return tasks;
    }

    public int utilNum(int kind) {
        switch (kind) {
            case UTIL_LO_LO:
                return utilSum(LO, budgetLo);
            case UTIL_HI_LO:
                return utilSum(HI, budgetLo);
            case UTIL_HI_HI:
                return utilSum(HI, budgetHi);
            default:
                return REFUSED;
        }
    }

    public int admit() {
        if (admitted || tasks == 0) {
            return VERDICT_REFUSED;
        }
        long loLo = utilSum(LO, budgetLo);
        long hiLo = utilSum(HI, budgetLo);
        long hiHi = utilSum(HI, budgetHi);
        int verdict = judge(loLo, hiLo, hiHi);
        if (verdict == VERDICT_EDF) {
            start(1, 1);
        } else if (verdict == VERDICT_VD) {
            start(hiLo, UTIL_DEN - loLo);
        }
        return verdict;
    }

    public int run(int steps) {
        if (!admitted || steps < 1 || steps > MAX_STEPS) {
            return REFUSED;
        }
        int busy = 0;
        for (int step = 0; step < steps; step++) {
            tick();
            if (lastTask != NO_TASK) {
                busy++;
            }
        }
        return busy;
    }

    public int time() {
        return (int) now;
    }

    public int mode() {
        return currentMode;
    }

    public int xNum() {
        return factorNum;
    }

    public int xDen() {
        return factorDen;
    }

    public int lastRan() {
        return lastTask;
    }

    public int jobDone(int task) {
        return hasJob(task) ? executed[task] : REFUSED;
    }

    public long jobDeadline(int task) {
        return hasJob(task) ? priorityKey(task) : REFUSED;
    }

    public int counter(int task, int kind) {
        if (kind < 0 || kind >= CNT_KINDS) {
            return REFUSED;
        }
        if (task == ALL_TASKS) {
            return counterSum(kind);
        }
        return isAdded(task) ? counters[kind * MAX_TASKS + task] : REFUSED;
    }

    public int stat(int kind) {
        return kind >= 0 && kind < STAT_KINDS ? stats[kind] : REFUSED;
    }

    private static int clampCapacity(int wanted) {
        if (wanted < 1) {
            return 1;
        }
        return wanted > MAX_TASKS ? MAX_TASKS : wanted;
    }

    private static boolean isTask(int period, int cLo, int cHi, int crit) {
        if (crit != LO && crit != HI) {
            return false;
        }
        if (period < 1 || period > MAX_PERIOD || cLo < 1 || cLo > period) {
            return false;
        }
        return crit == LO || (cHi >= cLo && cHi <= period);
    }

    private boolean isAdded(int task) {
        return task >= 0 && task < tasks;
    }

    private boolean hasJob(int task) {
        return isAdded(task) && pending[task];
    }

    private int utilSum(int crit, int[] budget) {
        int sum = 0;
        for (int task = 0; task < tasks; task++) {
            if (criticality[task] == crit) {
                sum += budget[task] * (UTIL_DEN / periods[task]);
            }
        }
        return sum;
    }

    private int counterSum(int kind) {
        int sum = 0;
        for (int task = 0; task < tasks; task++) {
            sum += counters[kind * MAX_TASKS + task];
        }
        return sum;
    }

    private static int judge(long loLo, long hiLo, long hiHi) {
        if (loLo + hiLo > UTIL_DEN) {
            return VERDICT_REJECT;
        }
        if (loLo + hiHi <= UTIL_DEN) {
            return VERDICT_EDF;
        }
        if (hiLo * loLo <= (UTIL_DEN - hiHi) * (UTIL_DEN - loLo)) {
            return VERDICT_VD;
        }
        return VERDICT_REJECT;
    }

    private void start(long num, long den) {
        // Both are 1 or more here, and so is their common divisor.
        long divisor = commonDivisor(num, den);
        factorNum = (int) (num / divisor);
        factorDen = (int) (den / divisor);
        admitted = true;
        releaseJobs();
    }

    private static long commonDivisor(long num, long den) {
        long divisor = num;
        long rest = den;
        for (int round = 0; round < GCD_ROUNDS && rest != 0; round++) {
            long next = divisor % rest;
            divisor = rest;
            rest = next;
        }
        return divisor;
    }

    private void tick() {
        lastTask = chooseTask();
        if (lastTask == NO_TASK) {
            stats[STAT_IDLE]++;
        } else {
            stats[STAT_BUSY]++;
            execute(lastTask);
        }
        now++;
        missDeadlines();
        resetMode();
        releaseJobs();
    }

    private int chooseTask() {
        int chosen = NO_TASK;
        long least = 0;
        for (int task = 0; task < tasks; task++) {
            if (pending[task]) {
                long key = priorityKey(task);
                if (chosen == NO_TASK || key < least) {
                    chosen = task;
                    least = key;
                }
            }
        }
        return chosen;
    }

    private long priorityKey(int task) {
        if (criticality[task] == HI && currentMode == LO) {
            return release[task] * factorDen + (long) factorNum * periods[task];
        }
        return (release[task] + periods[task]) * factorDen;
    }

    private void execute(int task) {
        executed[task]++;
        int done = executed[task];
        if (done == jobDemand[task]) {
            endJob(task, CNT_COMPLETED);
            return;
        }
        // A LO task never moves the mode, however much it asks for.
        if (criticality[task] == HI && currentMode == LO && done == budgetLo[task]) {
            switchToHi();
        }
        // The cHi of a LO task is its cLo, so this budget ends the jobs of both kinds.
        if (done == budgetHi[task]) {
            endJob(task, CNT_ABORTED);
        }
    }

    private void switchToHi() {
        currentMode = HI;
        stats[STAT_SWITCHES]++;
        for (int task = 0; task < tasks; task++) {
            if (criticality[task] == LO && pending[task]) {
                endJob(task, CNT_DROPPED);
            }
        }
    }

    private void endJob(int task, int kind) {
        pending[task] = false;
        counters[kind * MAX_TASKS + task]++;
    }

    private void missDeadlines() {
        for (int task = 0; task < tasks; task++) {
            if (pending[task] && release[task] + periods[task] <= now) {
                endJob(task, CNT_MISSED);
            }
        }
    }

    private void resetMode() {
        if (currentMode == HI && !anyPending()) {
            currentMode = LO;
            stats[STAT_RESETS]++;
        }
    }

    private boolean anyPending() {
        for (int task = 0; task < tasks; task++) {
            if (pending[task]) {
                return true;
            }
        }
        return false;
    }

    private void releaseJobs() {
        for (int task = 0; task < tasks; task++) {
            if (now % periods[task] == 0) {
                releaseJob(task);
            }
        }
    }

    private void releaseJob(int task) {
        if (currentMode == HI && criticality[task] == LO) {
            counters[CNT_SKIPPED * MAX_TASKS + task]++;
            return;
        }
        counters[CNT_RELEASED * MAX_TASKS + task]++;
        pending[task] = true;
        release[task] = now;
        executed[task] = 0;
        jobDemand[task] = nextDemand[task];
    }
}
