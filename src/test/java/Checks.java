/** What every test uses: compares answers, prints the wrong ones, and ends with code 1 if there was one. */
final class Checks {
    static final int LO = MixedCritKernel.LO;
    static final int HI = MixedCritKernel.HI;
    /** Whole numbers that no index and no kind may take; -1 stands apart, as counter() takes it as a task. */
    static final int[] FAR_OUT = {
        Integer.MIN_VALUE, Integer.MIN_VALUE + 1, -65536, -1000, -2, 8, 9, 100, 65536, Integer.MAX_VALUE};

    /** Enough to see what is wrong with one sentence, and few enough to find the next one. */
    private static final int MOST_TOLD = 10;

    /** Many times what the longest test needs. */
    private static final long MOST_MILLIS = 120_000;

    private static int asked = 0;
    private static int wrong = 0;
    private static int wrongHere = 0;
    private static int sentences = 0;
    private static String sentence = "";

    static {
        // A call that never ends must fail its test, not hold it up for ever.
        Thread watch = new Thread(Checks::endIfLate);
        watch.setDaemon(true);
        watch.start();
    }

    private Checks() {
    }

    /** Quotes the sentence of the document that the checks from here on hold; a wrong answer is told with it. */
    static void sentence(String quote) {
        sentence = "[" + quote + "] ";
        sentences++;
        wrongHere = 0;
    }

    static void due(String what, long got, long want) {
        asked++;
        if (got != want) {
            report(what + " answered " + got + ", due is " + want);
        }
    }

    static void due(String what, boolean got, boolean want) {
        due(what, got ? 1 : 0, want ? 1 : 0);
    }

    static void same(String what, String got, String want) {
        asked++;
        if (!got.equals(want)) {
            report(what + "\n  got " + got + "\n  due " + want);
        }
    }

    static void finish() {
        String held = sentences == 0 ? "" : ", " + sentences + " sentences of the document quoted";
        System.out.println(asked - wrong + " of " + asked + " answers are as due" + held);
        if (wrong != 0 || asked == 0) {
            System.exit(1);
        }
    }

    /** Every answer of the calls that change nothing. */
    static String state(MixedCritKernel kernel) {
        StringBuilder text = new StringBuilder();
        text.append("tasks ").append(kernel.taskCount());
        text.append(" util");
        for (int kind = -1; kind <= 3; kind++) {
            text.append(' ').append(kernel.utilNum(kind));
        }
        text.append(" time ").append(kernel.time()).append(" mode ").append(kernel.mode());
        text.append(" x ").append(kernel.xNum()).append('/').append(kernel.xDen());
        text.append(" last ").append(kernel.lastRan());
        text.append(" stats");
        for (int kind = -1; kind <= 4; kind++) {
            text.append(' ').append(kernel.stat(kind));
        }
        for (int task = -1; task <= kernel.taskCount(); task++) {
            text.append(" [").append(task).append(':');
            text.append(' ').append(kernel.jobDone(task)).append(' ').append(kernel.jobDeadline(task));
            for (int kind = -1; kind <= 6; kind++) {
                text.append(' ').append(kernel.counter(task, kind));
            }
            text.append(']');
        }
        return text.toString();
    }

    /** A kernel with these tasks, each {period, cLo, cHi, crit}, not yet admitted. */
    static MixedCritKernel kernel(int capacity, int[]... tasks) {
        MixedCritKernel kernel = new MixedCritKernel(capacity);
        for (int[] task : tasks) {
            kernel.addTask(task[0], task[1], task[2], task[3]);
        }
        return kernel;
    }

    /** A LO task (4, 2) and a HI task (8, 2, 5), not yet admitted; admission answers VD with x = 1/2. */
    static MixedCritKernel pair() {
        return kernel(8, new int[] {4, 2, 2, LO}, new int[] {8, 2, 5, HI});
    }

    /** Runs one tick for each entry, which tells the task that is due in it, or -1 if none is. */
    static void ranInTurn(String name, MixedCritKernel kernel, int... tasks) {
        for (int i = 0; i < tasks.length; i++) {
            due(name + ": run(1), tick " + i, kernel.run(1), tasks[i] == -1 ? 0 : 1);
            due(name + ": lastRan, tick " + i, kernel.lastRan(), tasks[i]);
        }
    }

    /** The six counters of a task, in the order of their kinds. */
    static void counters(String name, MixedCritKernel kernel, int task, int... want) {
        for (int kind = 0; kind < 6; kind++) {
            due(name + ": counter kind " + kind, kernel.counter(task, kind), want[kind]);
        }
    }

    /** The four system counters, in the order of their kinds. */
    static void stats(String name, MixedCritKernel kernel, int... want) {
        for (int kind = 0; kind < 4; kind++) {
            due(name + ": stat kind " + kind, kernel.stat(kind), want[kind]);
        }
    }

    private static void endIfLate() {
        try {
            Thread.sleep(MOST_MILLIS);
        } catch (InterruptedException interrupted) {
            return;
        }
        System.out.println(sentence + "the test does not end");
        Runtime.getRuntime().halt(1);
    }

    private static void report(String text) {
        wrong++;
        wrongHere++;
        if (wrongHere <= MOST_TOLD) {
            System.out.println(sentence + text);
        }
    }
}
