/** Promise 9: the factor x. */
final class FactorTest {
    public static void main(String[] args) {
        lowestTerms();
        staysThroughTicks();
        zeroBefore();
        changesNothing();
        Checks.finish();
    }

    private static void lowestTerms() {
        Checks.sentence("`xNum()` and `xDen()` answer the numerator and denominator of x in lowest terms after a"
            + " successful admission");
        admitted(1, 1, new int[][] {{7, 3, 3, 0}});
        admitted(1, 1, new int[][] {{7, 3, 7, 1}});
        admitted(1, 2, new int[][] {{4, 2, 2, 0}, {8, 2, 5, 1}});
        admitted(3, 10, new int[][] {{16, 1, 1, 0}, {8, 1, 6, 1}, {4, 1, 1, 0}, {16, 1, 1, 0}, {16, 1, 1, 1}});
        admitted(6, 13, new int[][] {{3, 1, 1, 0}, {13, 4, 11, 1}});
        admitted(1, 8, new int[][] {{16, 8, 8, 0}, {16, 1, 9, 1}});
        admitted(15, 16, new int[][] {{15, 14, 14, 0}, {16, 1, 2, 1}});
        admitted(6903, 11572, new int[][] {
            {9, 1, 1, 0}, {16, 1, 1, 0}, {16, 1, 6, 1}, {11, 3, 4, 1}, {13, 1, 1, 0}, {16, 3, 3, 0}});
    }

    private static void admitted(int num, int den, int[][] tasks) {
        MixedCritKernel kernel = Checks.kernel(8, tasks);
        kernel.admit();
        factor(java.util.Arrays.deepToString(tasks), kernel, num, den);
    }

    private static void zeroBefore() {
        Checks.sentence("and 0 before");
        for (Twins.Start start : Twins.NOT_ADMITTED) {
            MixedCritKernel kernel = start.make().get();
            factor(start.name(), kernel, 0, 0);
            kernel.run(1);
            kernel.addTask(0, 0, 0, 0);
            factor(start.name() + ", after refused calls", kernel, 0, 0);
        }
        MixedCritKernel kernel = Checks.kernel(8, new int[] {2, 1, 1, Checks.LO}, new int[] {2, 1, 2, Checks.HI});
        Checks.due("reject", kernel.admit(), MixedCritKernel.VERDICT_REJECT);
        factor("after a reject", kernel, 0, 0);
    }

    private static void staysThroughTicks() {
        MixedCritKernel kernel = Checks.pair();
        kernel.setExec(1, 9);
        kernel.admit();
        for (int tick = 0; tick < 20; tick++) {
            kernel.run(1);
            kernel.admit();
            factor("at " + kernel.time(), kernel, 1, 2);
        }
    }

    private static void changesNothing() {
        Checks.sentence("They change nothing.");
        Twins.unchanged(Twins.ALL, "xNum()", MixedCritKernel::xNum);
        Twins.unchanged(Twins.ALL, "xDen()", MixedCritKernel::xDen);
    }

    private static void factor(String name, MixedCritKernel kernel, int num, int den) {
        Checks.due("xNum " + name, kernel.xNum(), num);
        Checks.due("xDen " + name, kernel.xDen(), den);
    }
}
