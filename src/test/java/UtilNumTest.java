/** Promise 5: utilisation numerators. */
final class UtilNumTest {
    public static void main(String[] args) {
        noTasks();
        onlyOneKind();
        sumsOverTasks();
        greatestSums();
        sameAfterAdmission();
        otherKinds();
        Checks.finish();
    }

    private static void noTasks() {
        three("no tasks", new MixedCritKernel(8), 0, 0, 0);
    }

    private static void onlyOneKind() {
        MixedCritKernel lo = new MixedCritKernel(8);
        lo.addTask(3, 1, 3, Checks.LO);
        three("a LO task", lo, 240240, 0, 0);
        MixedCritKernel hi = new MixedCritKernel(8);
        hi.addTask(3, 1, 3, Checks.HI);
        three("a HI task", hi, 0, 240240, 720720);
    }

    private static void sumsOverTasks() {
        MixedCritKernel kernel = new MixedCritKernel(8);
        kernel.addTask(7, 2, 2, Checks.LO);
        kernel.addTask(11, 3, 7, Checks.HI);
        kernel.addTask(13, 5, 5, Checks.LO);
        kernel.addTask(16, 1, 9, Checks.HI);
        three("7, 11, 13, 16", kernel, 2 * 102960 + 5 * 55440, 3 * 65520 + 45045, 7 * 65520 + 9 * 45045);
        kernel.setExec(1, 30);
        three("a demand is not a budget", kernel, 2 * 102960 + 5 * 55440, 3 * 65520 + 45045, 7 * 65520 + 9 * 45045);
    }

    private static void greatestSums() {
        MixedCritKernel lo = new MixedCritKernel(8);
        MixedCritKernel hi = new MixedCritKernel(8);
        for (int task = 0; task < 8; task++) {
            lo.addTask(task + 9, task + 9, 0, Checks.LO);
            hi.addTask(task + 1, task + 1, task + 1, Checks.HI);
        }
        three("eight full LO tasks", lo, 8 * 720720, 0, 0);
        three("eight full HI tasks", hi, 0, 8 * 720720, 8 * 720720);
    }

    private static void sameAfterAdmission() {
        MixedCritKernel kernel = Checks.pair();
        three("before admission", kernel, 360360, 180180, 450450);
        kernel.admit();
        three("after admission", kernel, 360360, 180180, 450450);
        kernel.setExec(1, 5);
        kernel.run(13);
        three("after ticks", kernel, 360360, 180180, 450450);
    }

    private static void otherKinds() {
        int[] others = {Integer.MIN_VALUE, -2, -1, 3, 4, 5, 100, Integer.MAX_VALUE};
        MixedCritKernel kernel = Checks.pair();
        String before = Checks.state(kernel);
        for (int kind : others) {
            Checks.due("utilNum(" + kind + ")", kernel.utilNum(kind), -1);
            Checks.due("utilNum(" + kind + ") of no tasks", new MixedCritKernel(1).utilNum(kind), -1);
        }
        Checks.same("utilNum changes nothing", Checks.state(kernel), before);
    }

    private static void three(String name, MixedCritKernel kernel, int loLo, int hiLo, int hiHi) {
        Checks.due("ULL of " + name, kernel.utilNum(MixedCritKernel.UTIL_LO_LO), loLo);
        Checks.due("UHL of " + name, kernel.utilNum(MixedCritKernel.UTIL_HI_LO), hiLo);
        Checks.due("UHH of " + name, kernel.utilNum(MixedCritKernel.UTIL_HI_HI), hiHi);
    }
}
