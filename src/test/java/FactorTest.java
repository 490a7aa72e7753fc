/** Promise 9: the factor x. */
final class FactorTest {
    public static void main(String[] args) {
        zeroBefore();
        lowestTerms();
        staysThroughTicks();
        Checks.finish();
    }

    private static void zeroBefore() {
        MixedCritKernel kernel = new MixedCritKernel(8);
        factor("fresh", kernel, 0, 0);
        kernel.addTask(2, 1, 1, Checks.LO);
        factor("with a task", kernel, 0, 0);
        kernel.addTask(2, 1, 2, Checks.HI);
        Checks.due("reject", kernel.admit(), MixedCritKernel.VERDICT_REJECT);
        factor("after a reject", kernel, 0, 0);
    }

    private static void lowestTerms() {
        admitted(1, 1, new int[][] {{7, 3, 3, 0}});
        admitted(1, 1, new int[][] {{7, 3, 7, 1}});
        admitted(1, 2, new int[][] {{4, 2, 2, 0}, {8, 2, 5, 1}});
        admitted(3, 10, new int[][] {{16, 1, 1, 0}, {8, 1, 6, 1}, {4, 1, 1, 0}, {16, 1, 1, 0}, {16, 1, 1, 1}});
        admitted(6, 13, new int[][] {{3, 1, 1, 0}, {13, 4, 11, 1}});
        admitted(1, 8, new int[][] {{16, 8, 8, 0}, {16, 1, 9, 1}});
        admitted(6903, 11572, new int[][] {
            {9, 1, 1, 0}, {16, 1, 1, 0}, {16, 1, 6, 1}, {11, 3, 4, 1}, {13, 1, 1, 0}, {16, 3, 3, 0}});
    }

    private static void admitted(int num, int den, int[][] tasks) {
        MixedCritKernel kernel = new MixedCritKernel(8);
        for (int[] task : tasks) {
            kernel.addTask(task[0], task[1], task[2], task[3]);
        }
        kernel.admit();
        factor(java.util.Arrays.deepToString(tasks), kernel, num, den);
    }

    private static void staysThroughTicks() {
        MixedCritKernel kernel = Checks.pair();
        kernel.setExec(1, 9);
        kernel.admit();
        for (int tick = 0; tick < 20; tick++) {
            kernel.run(1);
            factor("at " + kernel.time(), kernel, 1, 2);
        }
        String before = Checks.state(kernel);
        factor("again", kernel, 1, 2);
        Checks.same("xNum and xDen change nothing", Checks.state(kernel), before);
    }

    private static void factor(String name, MixedCritKernel kernel, int num, int den) {
        Checks.due("xNum " + name, kernel.xNum(), num);
        Checks.due("xDen " + name, kernel.xDen(), den);
    }
}
