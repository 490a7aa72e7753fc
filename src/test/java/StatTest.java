/** Promise 14: system counters. */
final class StatTest {
    public static void main(String[] args) {
        eachKind();
        otherKinds();
        Checks.finish();
    }

    private static void eachKind() {
        MixedCritKernel kernel = Checks.pair();
        kernel.setExec(1, 5);
        four(kernel, 0, 0, 0, 0);
        kernel.admit();
        four(kernel, 0, 0, 0, 0);
        kernel.run(3);
        four(kernel, 0, 0, 0, 3);
        kernel.run(1);
        four(kernel, 1, 0, 0, 4);
        kernel.run(2);
        four(kernel, 1, 0, 0, 6);
        kernel.run(1);
        four(kernel, 1, 1, 0, 7);
        kernel.run(1);
        four(kernel, 1, 1, 1, 7);
        kernel.run(8);
        four(kernel, 2, 2, 2, 14);
        kernel.run(800);
        four(kernel, 102, 102, 102, 714);
        String before = Checks.state(kernel);
        kernel.stat(0);
        kernel.stat(9);
        Checks.same("stat changes nothing", Checks.state(kernel), before);
    }

    private static void four(MixedCritKernel kernel, int switches, int resets, int idle, int busy) {
        String at = " at " + kernel.time();
        Checks.due("switches" + at, kernel.stat(MixedCritKernel.STAT_SWITCHES), switches);
        Checks.due("resets" + at, kernel.stat(MixedCritKernel.STAT_RESETS), resets);
        Checks.due("idle" + at, kernel.stat(MixedCritKernel.STAT_IDLE), idle);
        Checks.due("busy" + at, kernel.stat(MixedCritKernel.STAT_BUSY), busy);
    }

    private static void otherKinds() {
        int[] others = {Integer.MIN_VALUE, -2, -1, 4, 5, 100, Integer.MAX_VALUE};
        MixedCritKernel kernel = Checks.pair();
        for (int kind : others) {
            Checks.due("fresh stat(" + kind + ")", kernel.stat(kind), -1);
        }
        kernel.admit();
        kernel.run(9);
        for (int kind : others) {
            Checks.due("stat(" + kind + ")", kernel.stat(kind), -1);
        }
    }
}
