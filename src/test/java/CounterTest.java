/** Promise 13: per-task counters. */
final class CounterTest {
    public static void main(String[] args) {
        noTasks();
        eachKind();
        wrongArguments();
        jobsAddUp();
        Checks.finish();
    }

    private static void noTasks() {
        MixedCritKernel kernel = new MixedCritKernel(8);
        for (int kind = 0; kind < 6; kind++) {
            Checks.due("sum of none, kind " + kind, kernel.counter(-1, kind), 0);
            Checks.due("task 0 of none, kind " + kind, kernel.counter(0, kind), -1);
        }
        Checks.due("sum of none, kind -1", kernel.counter(-1, -1), -1);
        Checks.due("sum of none, kind 6", kernel.counter(-1, 6), -1);
    }

    private static void eachKind() {
        MixedCritKernel kernel = new MixedCritKernel(8);
        kernel.addTask(16, 1, 1, Checks.LO);
        kernel.addTask(8, 1, 6, Checks.HI);
        kernel.addTask(4, 1, 1, Checks.LO);
        kernel.addTask(16, 1, 1, Checks.HI);
        for (int kind = 0; kind < 6; kind++) {
            Checks.due("sum before admission, kind " + kind, kernel.counter(-1, kind), 0);
        }
        kernel.setExec(1, 7);
        kernel.admit();
        kernel.run(8);
        kernel.setExec(1, 1);
        kernel.setExec(2, 2);
        kernel.run(24);
        // At 0 and at 8 the HI job switches and ends at its cHi; from 16 on it completes, and task 2 overruns.
        table(kernel, new int[][] {
            {3, 1, 0, 1, 0, 0}, {5, 2, 2, 0, 0, 0}, {7, 0, 4, 2, 2, 0}, {3, 2, 0, 0, 0, 0}});
        String before = Checks.state(kernel);
        kernel.counter(-1, 0);
        kernel.counter(1, 2);
        Checks.same("counter changes nothing", Checks.state(kernel), before);
    }

    private static void table(MixedCritKernel kernel, int[][] want) {
        for (int kind = 0; kind < 6; kind++) {
            int sum = 0;
            for (int task = 0; task < want.length; task++) {
                Checks.due("counter(" + task + ", " + kind + ")", kernel.counter(task, kind), want[task][kind]);
                sum += want[task][kind];
            }
            Checks.due("counter(-1, " + kind + ")", kernel.counter(-1, kind), sum);
        }
    }

    private static void wrongArguments() {
        MixedCritKernel kernel = Checks.pair();
        kernel.admit();
        kernel.run(10);
        int[] wrongKinds = {Integer.MIN_VALUE, -8, -2, -1, 6, 7, 8, 48, Integer.MAX_VALUE};
        for (int kind : wrongKinds) {
            for (int task = -2; task <= 2; task++) {
                Checks.due("counter(" + task + ", " + kind + ")", kernel.counter(task, kind), -1);
            }
        }
        for (int kind = 0; kind < 6; kind++) {
            Checks.due("counter(-2, " + kind + ")", kernel.counter(-2, kind), -1);
            Checks.due("counter(2, " + kind + ")", kernel.counter(2, kind), -1);
            for (int task : Checks.FAR_OUT) {
                Checks.due("counter(" + task + ", " + kind + ")", kernel.counter(task, kind), -1);
            }
        }
    }

    private static void jobsAddUp() {
        MixedCritKernel kernel = Checks.pair();
        kernel.admit();
        for (int call = 0; call < 300; call++) {
            kernel.setExec(call % 2, 1 + call % 7);
            kernel.run(1 + call % 5);
            for (int task = 0; task < 2; task++) {
                int ended = 0;
                for (int kind = 1; kind < 6; kind++) {
                    ended += kind == MixedCritKernel.CNT_SKIPPED ? 0 : kernel.counter(task, kind);
                }
                int pending = kernel.jobDone(task) >= 0 ? 1 : 0;
                Checks.due("jobs of " + task, kernel.counter(task, MixedCritKernel.CNT_RELEASED), ended + pending);
                int period = task == 0 ? 4 : 8;
                int arrivals = kernel.counter(task, 0) + kernel.counter(task, MixedCritKernel.CNT_SKIPPED);
                Checks.due("arrivals of " + task, arrivals, kernel.time() / period + 1);
            }
        }
    }
}
