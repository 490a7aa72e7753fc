/** Promise 10: the last job run. */
final class LastRanTest {
    public static void main(String[] args) {
        MixedCritKernel kernel = new MixedCritKernel(8);
        Checks.due("fresh", kernel.lastRan(), -1);
        kernel.addTask(8, 1, 1, Checks.LO);
        kernel.addTask(4, 2, 2, Checks.HI);
        Checks.due("with tasks", kernel.lastRan(), -1);
        kernel.admit();
        Checks.due("admitted", kernel.lastRan(), -1);
        int[] ran = {1, 1, 0, -1, 1, 1, -1, -1, 1};
        for (int tick = 0; tick < ran.length; tick++) {
            kernel.run(1);
            Checks.due("after tick " + tick, kernel.lastRan(), ran[tick]);
        }
        kernel.run(0);
        kernel.admit();
        kernel.setExec(0, 1);
        Checks.due("after calls without a tick", kernel.lastRan(), 1);
        kernel.run(2);
        Checks.due("the last of two ticks", kernel.lastRan(), 0);
        kernel.run(5);
        Checks.due("the last of five ticks, idle", kernel.lastRan(), -1);
        String before = Checks.state(kernel);
        kernel.lastRan();
        Checks.same("lastRan changes nothing", Checks.state(kernel), before);
        Checks.finish();
    }
}
