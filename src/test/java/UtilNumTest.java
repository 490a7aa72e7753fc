/** Promise 5: utilisation numerators. */
final class UtilNumTest {
    public static void main(String[] args) {
        noSuchTasks();
        otherKinds();
        changesNothing();
        sameAfterAdmission();
        sumsOverTasks();
        greatestSums();
        Checks.finish();
    }

    private static void noSuchTasks() {
        Checks.sentence("each is 0 if there are no such tasks");
        three("no tasks", new MixedCritKernel(8), 0, 0, 0);
        MixedCritKernel refusing = new MixedCritKernel(8);
        refusing.addTask(4, 5, 5, Checks.LO);
        refusing.addTask(4, 2, 5, Checks.HI);
        three("refused tasks alone", refusing, 0, 0, 0);
        three("a LO task", Checks.kernel(8, new int[] {3, 1, 3, Checks.LO}), 240240, 0, 0);
        three("a HI task", Checks.kernel(8, new int[] {3, 1, 3, Checks.HI}), 0, 240240, 720720);
    }

    private static void otherKinds() {
        Checks.sentence("For any other `kind` it answers -1.");
        int[] others = {Integer.MIN_VALUE, -65536, -2, -1, 3, 4, 5, 100, 256, 65536, Integer.MAX_VALUE};
        for (int kind : others) {
            Twins.refused(Twins.ALL, "utilNum(" + kind + ")", -1, kernel -> kernel.utilNum(kind));
        }
    }

    private static void changesNothing() {
        Checks.sentence("For any other `kind` it answers -1. It changes nothing.");
        for (int kind = -1; kind <= 3; kind++) {
            int asked = kind;
            Twins.unchanged(Twins.ALL, "utilNum(" + kind + ")", kernel -> kernel.utilNum(asked));
        }
    }

    private static void sameAfterAdmission() {
        Checks.sentence("The answer is the same before and after admission, as tasks and budgets do not change then.");
        MixedCritKernel kernel = Checks.pair();
        three("before admission", kernel, 360360, 180180, 450450);
        kernel.admit();
        three("after admission", kernel, 360360, 180180, 450450);
        kernel.setExec(1, 5);
        for (int tick = 0; tick < 20; tick++) {
            kernel.run(1);
            three("at " + kernel.time(), kernel, 360360, 180180, 450450);
        }
        kernel.addTask(16, 1, 1, Checks.LO);
        three("after a refused task", kernel, 360360, 180180, 450450);
    }

    private static void sumsOverTasks() {
        Checks.sentence("`utilNum(kind)` answers, over the current tasks, ULL for `UTIL_LO_LO`, UHL for `UTIL_HI_LO`,"
            + " and UHH for `UTIL_HI_HI`");
        MixedCritKernel kernel = Checks.kernel(8, new int[] {7, 2, 2, Checks.LO}, new int[] {11, 3, 7, Checks.HI},
            new int[] {13, 5, 5, Checks.LO}, new int[] {16, 1, 9, Checks.HI});
        three("7, 11, 13, 16", kernel, 2 * 102960 + 5 * 55440, 3 * 65520 + 45045, 7 * 65520 + 9 * 45045);
        kernel.setExec(1, 30);
        three("a demand is not a budget", kernel, 2 * 102960 + 5 * 55440, 3 * 65520 + 45045, 7 * 65520 + 9 * 45045);
    }

    private static void greatestSums() {
        MixedCritKernel lo = new MixedCritKernel(8);
        MixedCritKernel hi = new MixedCritKernel(8);
        for (int task = 0; task < 8; task++) {
            lo.addTask(task + 9, task + 9, 0, Checks.LO);
            hi.addTask(task + 1, task + 1, task + 1, Checks.HI);
        }
        three("eight full LO tasks", lo, 8 * 720720, 0, 0);
        three("eight full HI tasks", hi, 0, 8 * 720720, 8 * 720720);
    }

    private static void three(String name, MixedCritKernel kernel, int loLo, int hiLo, int hiHi) {
        Checks.due("ULL of " + name, kernel.utilNum(MixedCritKernel.UTIL_LO_LO), loLo);
        Checks.due("UHL of " + name, kernel.utilNum(MixedCritKernel.UTIL_HI_LO), hiLo);
        Checks.due("UHH of " + name, kernel.utilNum(MixedCritKernel.UTIL_HI_HI), hiHi);
    }
}
