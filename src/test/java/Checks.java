/** What every test uses: compares answers, prints the wrong ones, and ends with code 1 if there was one. */
final class Checks {
    static final int LO = MixedCritKernel.LO;
    static final int HI = MixedCritKernel.HI;
    /** Whole numbers that no index and no kind may take; -1 stands apart, as counter() takes it as a task. */
    static final int[] FAR_OUT = {Integer.MIN_VALUE, -1000, -2, 8, 9, 100, Integer.MAX_VALUE};

    private static int asked = 0;
    private static int wrong = 0;

    private Checks() {
    }

    static void due(String what, long got, long want) {
        asked++;
        if (got != want) {
            report(what + " answered " + got + ", due is " + want);
        }
    }

    static void due(String what, boolean got, boolean want) {
        due(what, got ? 1 : 0, want ? 1 : 0);
    }

    static void same(String what, String got, String want) {
        asked++;
        if (!got.equals(want)) {
            report(what + "\n  got " + got + "\n  due " + want);
        }
    }

    static void finish() {
        System.out.println(asked - wrong + " of " + asked + " answers are as due");
        if (wrong != 0 || asked == 0) {
            System.exit(1);
        }
    }

    /** Every answer of the calls that change nothing. */
    static String state(MixedCritKernel kernel) {
        StringBuilder text = new StringBuilder();
        text.append("tasks ").append(kernel.taskCount());
        text.append(" util");
        for (int kind = -1; kind <= 3; kind++) {
            text.append(' ').append(kernel.utilNum(kind));
        }
        text.append(" time ").append(kernel.time()).append(" mode ").append(kernel.mode());
        text.append(" x ").append(kernel.xNum()).append('/').append(kernel.xDen());
        text.append(" last ").append(kernel.lastRan());
        text.append(" stats");
        for (int kind = -1; kind <= 4; kind++) {
            text.append(' ').append(kernel.stat(kind));
        }
        for (int task = -1; task <= kernel.taskCount(); task++) {
            text.append(" [").append(task).append(':');
            text.append(' ').append(kernel.jobDone(task)).append(' ').append(kernel.jobDeadline(task));
            for (int kind = -1; kind <= 6; kind++) {
                text.append(' ').append(kernel.counter(task, kind));
            }
            text.append(']');
        }
        return text.toString();
    }

    /** A LO task (4, 2) and a HI task (8, 2, 5), not yet admitted; admission answers VD with x = 1/2. */
    static MixedCritKernel pair() {
        MixedCritKernel kernel = new MixedCritKernel(8);
        kernel.addTask(4, 2, 2, LO);
        kernel.addTask(8, 2, 5, HI);
        return kernel;
    }

    private static void report(String text) {
        wrong++;
        if (wrong <= 50) {
            System.out.println(text);
        }
    }
}
