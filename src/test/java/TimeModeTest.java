/** Promise 8: time and mode. */
final class TimeModeTest {
    public static void main(String[] args) {
        timeCountsTicks();
        modeFollowsTheSwitches();
        changeNothing();
        Checks.finish();
    }

    private static void timeCountsTicks() {
        MixedCritKernel kernel = Checks.pair();
        Checks.due("time before admission", kernel.time(), 0);
        kernel.admit();
        Checks.due("time after admission", kernel.time(), 0);
        int[] steps = {1, 1, 5, 1000, 999, 1, 17};
        int total = 0;
        for (int count : steps) {
            kernel.run(count);
            total += count;
            Checks.due("time after run(" + count + ")", kernel.time(), total);
        }
        kernel.run(0);
        kernel.run(1001);
        Checks.due("time after refused runs", kernel.time(), total);
        for (int call = 0; call < 1000; call++) {
            kernel.run(1000);
        }
        Checks.due("time after a million ticks more", kernel.time(), total + 1000000);
    }

    private static void modeFollowsTheSwitches() {
        MixedCritKernel kernel = Checks.pair();
        kernel.setExec(1, 5);
        Checks.due("mode before admission", kernel.mode(), MixedCritKernel.LO);
        kernel.admit();
        int[] modes = {0, 0, 0, 0, 1, 1, 1, 0, 0, 0, 0, 0, 1, 1, 1, 0, 0};
        for (int time = 0; time < modes.length; time++) {
            Checks.due("time", kernel.time(), time);
            Checks.due("mode at " + time, kernel.mode(), modes[time]);
            kernel.run(1);
        }
    }

    private static void changeNothing() {
        MixedCritKernel kernel = Checks.pair();
        kernel.setExec(1, 5);
        kernel.admit();
        kernel.run(5);
        String before = Checks.state(kernel);
        Checks.due("time", kernel.time(), 5);
        Checks.due("mode", kernel.mode(), MixedCritKernel.HI);
        Checks.same("time and mode change nothing", Checks.state(kernel), before);
    }
}
