import java.util.ArrayList;
import java.util.HashMap;
import java.util.LinkedHashMap;
import java.util.List;
import java.util.Map;
import java.util.function.Consumer;
import java.util.function.Supplier;
import java.util.function.ToLongFunction;

/**
 * Holds that a call changes nothing at all: a twin that is spared the call gives the same answers, at once and in all
 * that follows. What follows also shows what no answer tells at once: capacity, admission and demands.
 *
 * No other question is asked before the one that is compared: it might hide the change, if it made the same one.
 */
final class Twins {
    /** A way to bring a new kernel into some state. */
    record Start(String name, Supplier<MixedCritKernel> make) {
    }

    private static final int LO = Checks.LO;
    private static final int HI = Checks.HI;

    static final List<Start> EMPTY = List.of(
        new Start("fresh", () -> new MixedCritKernel(8)),
        new Start("fresh for one task", () -> new MixedCritKernel(1)));

    static final List<Start> WITH_ROOM = List.of(
        new Start("one task, room for one", Twins::halfFull),
        new Start("two tasks, room for six", () -> demanding(Checks.pair())),
        new Start("rejected, room for two", () -> rejected(4)));

    static final List<Start> FULL = List.of(
        new Start("full with one task", () -> Checks.kernel(1, new int[] {5, 2, 4, HI})),
        new Start("full with eight tasks", Twins::eight),
        new Start("rejected and full", () -> rejected(2)));

    static final List<Start> ADMITTED = List.of(
        new Start("admitted EDF, no tick", Twins::edf),
        new Start("admitted VD, no tick", () -> virtual(0)),
        new Start("LO mode, a HI job half done", () -> virtual(3)),
        new Start("HI mode", () -> virtual(5)),
        new Start("just reset to LO mode", () -> virtual(7)),
        new Start("an idle tick done", () -> virtual(8)),
        new Start("a thousand ticks done", () -> virtual(1000)),
        new Start("eight tasks in HI mode", Twins::eightInHiMode));

    static final List<Start> NOT_ADMITTED = joined(List.of(EMPTY, WITH_ROOM, FULL));
    static final List<Start> ALL = joined(List.of(NOT_ADMITTED, ADMITTED));

    private static final Map<String, ToLongFunction<MixedCritKernel>> QUESTIONS = questions();
    private static final Map<String, String> SPARED = new HashMap<>();

    private Twins() {
    }

    /** The call answers as wanted in each of these states, and changes nothing. */
    static void refused(List<Start> starts, String call, long want, ToLongFunction<MixedCritKernel> made) {
        for (Start start : starts) {
            String name = call + ", " + start.name();
            Checks.due(name, made.applyAsLong(start.make().get()), want);
        }
        unchanged(starts, call, made::applyAsLong);
    }

    /** The call changes nothing in each of these states, whatever it answers. */
    static void unchanged(List<Start> starts, String call, Consumer<MixedCritKernel> made) {
        for (Start start : starts) {
            String name = call + ", " + start.name() + ", changes nothing";
            String spared = SPARED.computeIfAbsent(start.name(), key -> atOnce(start, kernel -> { }));
            Checks.same(name, atOnce(start, made), spared);
            for (boolean fill : new boolean[] {false, true}) {
                MixedCritKernel kernel = start.make().get();
                made.accept(kernel);
                spared = SPARED.computeIfAbsent(start.name() + fill, key -> later(start.make().get(), fill));
                Checks.same(name + " later", later(kernel, fill), spared);
            }
        }
    }

    /** The answer to each question, asked first after the call. */
    private static String atOnce(Start start, Consumer<MixedCritKernel> made) {
        StringBuilder text = new StringBuilder();
        QUESTIONS.forEach((name, question) -> {
            MixedCritKernel kernel = start.make().get();
            made.accept(kernel);
            text.append(name).append(" = ").append(question.applyAsLong(kernel)).append("; ");
        });
        return text.toString();
    }

    private static Map<String, ToLongFunction<MixedCritKernel>> questions() {
        Map<String, ToLongFunction<MixedCritKernel>> all = new LinkedHashMap<>();
        all.put("taskCount", MixedCritKernel::taskCount);
        all.put("time", MixedCritKernel::time);
        all.put("mode", MixedCritKernel::mode);
        all.put("xNum", MixedCritKernel::xNum);
        all.put("xDen", MixedCritKernel::xDen);
        all.put("lastRan", MixedCritKernel::lastRan);
        for (int i = 0; i < 4; i++) {
            int kind = i;
            all.put("utilNum " + kind, kernel -> kernel.utilNum(kind));
            all.put("stat " + kind, kernel -> kernel.stat(kind));
        }
        for (int i = -1; i < 8; i++) {
            int task = i;
            all.put("jobDone " + task, kernel -> kernel.jobDone(task));
            all.put("jobDeadline " + task, kernel -> kernel.jobDeadline(task));
            for (int j = 0; j < 6; j++) {
                int kind = j;
                all.put("counter " + task + " " + kind, kernel -> kernel.counter(task, kind));
            }
        }
        return all;
    }

    /** What the calls that change something answer after the call, and the state they end in. */
    private static String later(MixedCritKernel kernel, boolean fill) {
        StringBuilder text = new StringBuilder("add");
        for (int i = 0; fill && i < 9; i++) {
            text.append(' ').append(kernel.addTask(16, 1, 1, LO));
        }
        text.append(" run ").append(kernel.run(1)).append(" admit ").append(kernel.admit()).append(" run");
        for (int tick = 0; tick < 40; tick++) {
            text.append(' ').append(kernel.run(1));
        }
        text.append(" add ").append(kernel.addTask(16, 1, 1, LO));
        return text.append(' ').append(Checks.state(kernel)).toString();
    }

    private static MixedCritKernel halfFull() {
        MixedCritKernel kernel = Checks.kernel(2, new int[] {6, 3, 3, LO});
        kernel.setExec(0, 1);
        return kernel;
    }

    private static MixedCritKernel rejected(int capacity) {
        MixedCritKernel kernel = Checks.kernel(capacity, new int[] {2, 1, 1, LO}, new int[] {2, 1, 2, HI});
        kernel.setExec(1, 2);
        kernel.admit();
        return kernel;
    }

    private static MixedCritKernel eight() {
        MixedCritKernel kernel = new MixedCritKernel(8);
        for (int task = 0; task < 8; task++) {
            kernel.addTask(16, 1, 2, task % 2);
        }
        kernel.setExec(1, 2);
        return kernel;
    }

    private static MixedCritKernel eightInHiMode() {
        MixedCritKernel kernel = eight();
        kernel.admit();
        kernel.run(3);
        return kernel;
    }

    /** The demands after admission differ from those of the jobs released at 0. */
    private static MixedCritKernel edf() {
        MixedCritKernel kernel = Checks.kernel(8, new int[] {6, 2, 2, LO}, new int[] {8, 2, 4, HI});
        kernel.setExec(0, 1);
        kernel.setExec(1, 3);
        kernel.admit();
        kernel.setExec(0, 2);
        kernel.setExec(1, 32);
        return kernel;
    }

    private static MixedCritKernel virtual(int ticks) {
        MixedCritKernel kernel = demanding(Checks.pair());
        kernel.admit();
        for (int tick = 0; tick < ticks; tick++) {
            kernel.run(1);
        }
        return kernel;
    }

    private static MixedCritKernel demanding(MixedCritKernel pair) {
        pair.setExec(1, 5);
        return pair;
    }

    private static List<Start> joined(List<List<Start>> lists) {
        List<Start> all = new ArrayList<>();
        lists.forEach(all::addAll);
        return all;
    }
}
