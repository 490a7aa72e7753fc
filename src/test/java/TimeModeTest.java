/** Promise 8: time and mode. */
final class TimeModeTest {
    public static void main(String[] args) {
        zeroUntilTicksAreDone();
        timeCountsTicks();
        modeIsLoOrHi();
        changeNothing();
        Checks.finish();
    }

    private static void zeroUntilTicksAreDone() {
        Checks.sentence("`time()` answers the current time: 0 until `run` has done ticks");
        for (Twins.Start start : Twins.NOT_ADMITTED) {
            MixedCritKernel kernel = start.make().get();
            Checks.due("time, " + start.name(), kernel.time(), 0);
            kernel.run(1);
            kernel.run(1000);
            Checks.due("time after refused runs, " + start.name(), kernel.time(), 0);
        }
        MixedCritKernel kernel = Checks.pair();
        kernel.admit();
        Checks.due("time after admission", kernel.time(), 0);
        kernel.run(0);
        kernel.run(-1);
        kernel.run(1001);
        Checks.due("time after admission and refused runs", kernel.time(), 0);
        kernel.run(1);
        Checks.due("time after the first tick", kernel.time(), 1);
    }

    private static void timeCountsTicks() {
        Checks.sentence("then the number of ticks done in total");
        MixedCritKernel kernel = Checks.pair();
        kernel.admit();
        int[] steps = {1, 1, 5, 1000, 999, 1, 17};
        int total = 0;
        for (int count : steps) {
            kernel.run(count);
            total += count;
            Checks.due("time after run(" + count + ")", kernel.time(), total);
        }
        kernel.run(0);
        kernel.run(1001);
        Checks.due("time after refused runs", kernel.time(), total);
        for (int call = 0; call < 1000; call++) {
            kernel.run(1000);
        }
        Checks.due("time after a million ticks more", kernel.time(), total + 1000000);
    }

    private static void modeIsLoOrHi() {
        Checks.sentence("`mode()` answers the current mode, `LO` or `HI`.");
        MixedCritKernel kernel = Checks.pair();
        kernel.setExec(1, 5);
        Checks.due("mode before admission", kernel.mode(), MixedCritKernel.LO);
        kernel.admit();
        int[] modes = {0, 0, 0, 0, 1, 1, 1, 0, 0, 0, 0, 0, 1, 1, 1, 0, 0};
        for (int time = 0; time < modes.length; time++) {
            Checks.due("time", kernel.time(), time);
            Checks.due("mode at " + time, kernel.mode(), modes[time]);
            kernel.run(1);
        }
    }

    private static void changeNothing() {
        Checks.sentence("Neither changes anything.");
        Twins.unchanged(Twins.ALL, "time()", MixedCritKernel::time);
        Twins.unchanged(Twins.ALL, "mode()", MixedCritKernel::mode);
    }
}
