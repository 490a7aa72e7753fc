/** Promises 1 to 14 together: long mixed runs of calls, compared with the model after every call. */
final class ModelTest {
    private static final int RUNS = 20000;
    private static final int CALLS = 60;

    // A fixed row of numbers, so that every run of the test makes the same calls.
    private static long row = 20260101L;

    private static int pick(int from, int to) {
        row = row * 6364136223846793005L + 1442695040888963407L;
        return from + (int) ((row >>> 33) % (to - from + 1));
    }

    private static int admissions = 0;
    private static int switches = 0;
    private static int dropped = 0;
    private static int virtual = 0;

    public static void main(String[] args) {
        for (int run = 0; run < RUNS; run++) {
            oneRun(run);
        }
        System.out.println(admissions + " admissions, " + virtual + " of them VD, " + switches + " switches, "
            + dropped + " jobs dropped");
        Checks.due("the runs reach HI mode", switches > 1000, true);
        Checks.due("the runs reach VD", virtual > 1000, true);
        Checks.due("the runs drop jobs", dropped > 1000, true);
        Checks.finish();
    }

    private static void oneRun(int run) {
        int capacity = pick(0, 3) == 0 ? pick(-2, 10) : 8;
        MixedCritKernel kernel = new MixedCritKernel(capacity);
        Model model = new Model(capacity);
        String told = "run " + run + ": new(" + capacity + ")";
        Checks.same(told, Checks.state(kernel), model.state());
        int wanted = pick(1, 8);
        // Light sets are admitted, heavy ones rejected; the runs need both, and many near the border.
        int share = pick((wanted + 1) / 2, 2 * wanted);
        for (int call = 0; call < CALLS; call++) {
            int kind = pick(0, 99);
            boolean adding = model.taskCount() < wanted;
            String name;
            if (adding && kind < 60 || kind < 3) {
                name = add(kernel, model, share);
            } else if (kind < 20) {
                name = setExec(kernel, model);
            } else if (kind < 35 && !adding || kind < 22) {
                name = admit(kernel, model);
            } else {
                name = run(kernel, model);
            }
            told = "run " + run + ", call " + call + ": " + name;
            Checks.same(told, Checks.state(kernel), model.state());
        }
        switches += kernel.stat(MixedCritKernel.STAT_SWITCHES);
        dropped += kernel.counter(-1, MixedCritKernel.CNT_DROPPED);
    }

    private static String add(MixedCritKernel kernel, Model model, int share) {
        boolean wild = pick(0, 9) == 0;
        int period = wild ? pick(-1, 18) : Math.max(pick(1, 16), pick(1, 16));
        int cLo = wild ? pick(-1, 18) : pick(1, Math.max(1, period / share));
        int cHi = wild ? pick(-1, 18) : pick(cLo, Math.max(cLo, Math.min(period, 4 * period / share)));
        int crit = wild ? pick(-1, 2) : pick(0, 1);
        String name = "addTask(" + period + ", " + cLo + ", " + cHi + ", " + crit + ")";
        Checks.due(name, kernel.addTask(period, cLo, cHi, crit), model.addTask(period, cLo, cHi, crit));
        return name;
    }

    private static String setExec(MixedCritKernel kernel, Model model) {
        int task = pick(-1, model.taskCount());
        int demand = pick(0, 3) == 0 ? pick(-1, 34) : pick(1, 8);
        String name = "setExec(" + task + ", " + demand + ")";
        Checks.due(name, kernel.setExec(task, demand), model.setExec(task, demand));
        return name;
    }

    private static String admit(MixedCritKernel kernel, Model model) {
        int verdict = model.admit();
        admissions += verdict > 0 ? 1 : 0;
        virtual += verdict == MixedCritKernel.VERDICT_VD ? 1 : 0;
        Checks.due("admit()", kernel.admit(), verdict);
        return "admit()";
    }

    private static String run(MixedCritKernel kernel, Model model) {
        int size = pick(0, 19);
        int steps = size == 0 ? pick(-1, 0) : size == 1 ? pick(998, 1002) : size < 8 ? 1 : pick(1, 20);
        String name = "run(" + steps + ")";
        Checks.due(name, kernel.run(steps), model.run(steps));
        return name;
    }
}
