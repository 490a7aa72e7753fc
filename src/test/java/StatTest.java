/** Promise 14: system counters. */
final class StatTest {
    public static void main(String[] args) {
        eachKind();
        otherKinds();
        changesNothing();
        Checks.finish();
    }

    private static void eachKind() {
        Checks.sentence("`stat(kind)` answers the system counter of the given `STAT_` kind");
        MixedCritKernel kernel = Checks.pair();
        kernel.setExec(1, 5);
        Checks.stats("before admission", kernel, 0, 0, 0, 0);
        kernel.admit();
        Checks.stats("after admission", kernel, 0, 0, 0, 0);
        kernel.run(3);
        Checks.stats("at 3", kernel, 0, 0, 0, 3);
        kernel.run(1);
        Checks.stats("at 4", kernel, 1, 0, 0, 4);
        kernel.run(2);
        Checks.stats("at 6", kernel, 1, 0, 0, 6);
        kernel.run(1);
        Checks.stats("at 7", kernel, 1, 1, 0, 7);
        kernel.run(1);
        Checks.stats("at 8", kernel, 1, 1, 1, 7);
        kernel.run(8);
        Checks.stats("at 16", kernel, 2, 2, 2, 14);
        kernel.run(800);
        Checks.stats("at 816", kernel, 102, 102, 102, 714);
    }

    private static void otherKinds() {
        Checks.sentence("and -1 for any other kind");
        int[] others = {Integer.MIN_VALUE, -65536, -4, -2, -1, 4, 5, 6, 100, 65536, Integer.MAX_VALUE};
        for (int kind : others) {
            Twins.refused(Twins.ALL, "stat(" + kind + ")", -1, kernel -> kernel.stat(kind));
        }
        for (int kind = 0; kind < 4; kind++) {
            Checks.due("fresh stat(" + kind + ")", new MixedCritKernel(1).stat(kind), 0);
        }
    }

    private static void changesNothing() {
        Checks.sentence("and -1 for any other kind. It changes nothing.");
        for (int kind = -1; kind <= 4; kind++) {
            int asked = kind;
            Twins.unchanged(Twins.ALL, "stat(" + kind + ")", kernel -> kernel.stat(asked));
        }
    }
}
