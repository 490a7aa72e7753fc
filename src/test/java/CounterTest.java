/** Promise 13: per-task counters. */
final class CounterTest {
    private static final int[] WRONG_KINDS = {
        Integer.MIN_VALUE, -65536, -48, -8, -2, -1, 6, 7, 8, 47, 48, 65536, Integer.MAX_VALUE};

    public static void main(String[] args) {
        eachKind();
        jobsAddUp();
        sumOverAllTasks();
        noTasks();
        wrongKind();
        wrongTask();
        changesNothing();
        Checks.finish();
    }

    private static void eachKind() {
        Checks.sentence("`counter(task, kind)` answers the counter of the given `CNT_` kind of task `task`.");
        MixedCritKernel kernel = mixed();
        // At 0 and at 8 the HI job switches and ends at its cHi; from 16 on it completes, and task 2 overruns.
        Checks.counters("task 0", kernel, 0, 3, 1, 0, 1, 0, 0);
        Checks.counters("task 1", kernel, 1, 5, 2, 2, 0, 0, 0);
        Checks.counters("task 2", kernel, 2, 7, 0, 4, 2, 2, 0);
        Checks.counters("task 3", kernel, 3, 3, 2, 0, 0, 0, 0);
    }

    private static void sumOverAllTasks() {
        Checks.sentence("For `task == -1` it answers the sum of that counter over all tasks");
        Checks.counters("all four tasks", mixed(), -1, 18, 5, 6, 3, 2, 0);
        MixedCritKernel kernel = new MixedCritKernel(8);
        for (int task = 0; task < 8; task++) {
            kernel.addTask(9 + task, 1, 1, task % 2);
            Checks.counters("before admission", kernel, -1, 0, 0, 0, 0, 0, 0);
        }
        kernel.admit();
        Checks.counters("eight tasks at 0", kernel, -1, 8, 0, 0, 0, 0, 0);
        kernel.run(9);
        Checks.counters("eight tasks at 9", kernel, -1, 9, 8, 0, 0, 0, 0);
    }

    private static void noTasks() {
        Checks.sentence("(0 when there are no tasks)");
        for (int kind = 0; kind < 6; kind++) {
            int asked = kind;
            Twins.refused(Twins.EMPTY, "counter(-1, " + kind + ")", 0, kernel -> kernel.counter(-1, asked));
        }
    }

    private static void wrongKind() {
        Checks.sentence("It answers -1 if `kind` is not a `CNT_` kind");
        for (int kind : WRONG_KINDS) {
            for (int task = -2; task <= 2; task++) {
                refused(task, kind);
            }
        }
        for (int kind = 0; kind < 6; kind++) {
            Checks.due("kind " + kind, mixed().counter(0, kind) >= 0, true);
        }
    }

    private static void wrongTask() {
        Checks.sentence("or `task` is neither -1 nor in 0..`taskCount()`-1");
        for (int kind = 0; kind < 6; kind++) {
            int asked = kind;
            for (int task : Checks.FAR_OUT) {
                refused(task, kind);
            }
            Twins.refused(Twins.ALL, "counter(taskCount(), " + kind + ")", -1,
                kernel -> kernel.counter(kernel.taskCount(), asked));
            Twins.refused(Twins.EMPTY, "counter(0, " + kind + ") of no tasks", -1, kernel -> kernel.counter(0, asked));
            for (int task = 4; task < 8; task++) {
                Checks.due("a place without a task, " + task, mixed().counter(task, kind), -1);
            }
            Checks.due("the last task", mixed().counter(3, kind) >= 0, true);
        }
    }

    private static void refused(int task, int kind) {
        Twins.refused(Twins.ALL, "counter(" + task + ", " + kind + ")", -1, kernel -> kernel.counter(task, kind));
    }

    private static void changesNothing() {
        Checks.sentence("or `task` is neither -1 nor in 0..`taskCount()`-1. It changes nothing.");
        for (int task = -1; task <= 2; task++) {
            for (int kind = 0; kind < 6; kind++) {
                int of = task;
                int asked = kind;
                String call = "counter(" + task + ", " + kind + ")";
                Twins.unchanged(Twins.ALL, call, kernel -> kernel.counter(of, asked));
            }
        }
    }

    private static void jobsAddUp() {
        MixedCritKernel kernel = Checks.pair();
        kernel.admit();
        for (int call = 0; call < 300; call++) {
            kernel.setExec(call % 2, 1 + call % 7);
            kernel.run(1 + call % 5);
            for (int task = 0; task < 2; task++) {
                int ended = 0;
                for (int kind = 1; kind < 6; kind++) {
                    ended += kind == MixedCritKernel.CNT_SKIPPED ? 0 : kernel.counter(task, kind);
                }
                int pending = kernel.jobDone(task) >= 0 ? 1 : 0;
                Checks.due("jobs of " + task, kernel.counter(task, MixedCritKernel.CNT_RELEASED), ended + pending);
                int period = task == 0 ? 4 : 8;
                int arrivals = kernel.counter(task, 0) + kernel.counter(task, MixedCritKernel.CNT_SKIPPED);
                Checks.due("arrivals of " + task, arrivals, kernel.time() / period + 1);
            }
        }
    }

    /** Four tasks after 32 ticks that make every counter grow but CNT_MISSED. */
    private static MixedCritKernel mixed() {
        MixedCritKernel kernel = Checks.kernel(8, new int[] {16, 1, 1, Checks.LO}, new int[] {8, 1, 6, Checks.HI},
            new int[] {4, 1, 1, Checks.LO}, new int[] {16, 1, 1, Checks.HI});
        kernel.setExec(1, 7);
        kernel.admit();
        kernel.run(8);
        kernel.setExec(1, 1);
        kernel.setExec(2, 2);
        kernel.run(24);
        return kernel;
    }
}
