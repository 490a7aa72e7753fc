import java.lang.reflect.Constructor;
import java.lang.reflect.Field;
import java.lang.reflect.Member;
import java.lang.reflect.Method;
import java.lang.reflect.Modifier;
import java.util.Arrays;
import java.util.Set;
import java.util.TreeSet;
import java.util.stream.Collectors;

/** The constants of "What it is", and "The public face": every one of its members, and no more. */
final class FaceTest {
    private static final String FACE = """
        public final class MixedCritKernel {
            public static final int LO = 0;
            public static final int HI = 1;
            public static final int VERDICT_REFUSED = -1;
            public static final int VERDICT_REJECT = 0;
            public static final int VERDICT_EDF = 1;
            public static final int VERDICT_VD = 2;
            public static final int UTIL_DEN = 720720;
            public static final int UTIL_LO_LO = 0;
            public static final int UTIL_HI_LO = 1;
            public static final int UTIL_HI_HI = 2;
            public static final int CNT_RELEASED = 0;
            public static final int CNT_COMPLETED = 1;
            public static final int CNT_ABORTED = 2;
            public static final int CNT_DROPPED = 3;
            public static final int CNT_SKIPPED = 4;
            public static final int CNT_MISSED = 5;
            public static final int STAT_SWITCHES = 0;
            public static final int STAT_RESETS = 1;
            public static final int STAT_IDLE = 2;
            public static final int STAT_BUSY = 3;
            public static final int MAX_STEPS = 1000;

            public MixedCritKernel(int capacity);
            public int addTask(int period, int cLo, int cHi, int crit);
            public boolean setExec(int task, int demand);
            public int taskCount();
            public int utilNum(int kind);
            public int admit();
            public int run(int steps);
            public int time();
            public int mode();
            public int xNum();
            public int xDen();
            public int lastRan();
            public int jobDone(int task);
            public long jobDeadline(int task);
            public int counter(int task, int kind);
            public int stat(int kind);
        }
        """;

    public static void main(String[] args) throws IllegalAccessException {
        criticalities();
        verdicts();
        utilisations();
        taskCounters();
        systemCounters();
        wholeFace();
        Checks.finish();
    }

    private static void criticalities() {
        Checks.sentence("Public constants: - Criticality and mode: `LO = 0`, `HI = 1`.");
        Checks.due("LO", MixedCritKernel.LO, 0);
        Checks.due("HI", MixedCritKernel.HI, 1);
        MixedCritKernel kernel = new MixedCritKernel(2);
        Checks.due("a task of criticality 0", kernel.addTask(4, 2, 3, 0), 0);
        Checks.due("a task of criticality 1", kernel.addTask(8, 1, 2, 1), 1);
        Checks.due("LO is 0", kernel.utilNum(0), 360360);
        Checks.due("HI is 1", kernel.utilNum(1), 90090);
        kernel.setExec(1, 2);
        kernel.admit();
        Checks.due("mode LO", kernel.mode(), 0);
        kernel.run(3);
        Checks.due("mode HI", kernel.mode(), 1);
    }

    private static void verdicts() {
        Checks.sentence("- Answers of `admit`: `VERDICT_REFUSED = -1`, `VERDICT_REJECT = 0`, `VERDICT_EDF = 1`,"
            + " `VERDICT_VD = 2`.");
        Checks.due("VERDICT_REFUSED", MixedCritKernel.VERDICT_REFUSED, -1);
        Checks.due("VERDICT_REJECT", MixedCritKernel.VERDICT_REJECT, 0);
        Checks.due("VERDICT_EDF", MixedCritKernel.VERDICT_EDF, 1);
        Checks.due("VERDICT_VD", MixedCritKernel.VERDICT_VD, 2);
        Checks.due("refused", new MixedCritKernel(1).admit(), -1);
        Checks.due("reject", Checks.kernel(2, new int[] {1, 1, 1, 0}, new int[] {1, 1, 1, 1}).admit(), 0);
        Checks.due("EDF", Checks.kernel(1, new int[] {1, 1, 1, 0}).admit(), 1);
        Checks.due("VD", Checks.pair().admit(), 2);
    }

    private static void utilisations() {
        Checks.sentence("the common denominator of the utilisation numerators; kinds for `utilNum`: `UTIL_LO_LO = 0`,"
            + " `UTIL_HI_LO = 1`, `UTIL_HI_HI = 2`.");
        Checks.due("UTIL_LO_LO", MixedCritKernel.UTIL_LO_LO, 0);
        Checks.due("UTIL_HI_LO", MixedCritKernel.UTIL_HI_LO, 1);
        Checks.due("UTIL_HI_HI", MixedCritKernel.UTIL_HI_HI, 2);
        Checks.due("ULL of 2/4", Checks.pair().utilNum(0) * 4, MixedCritKernel.UTIL_DEN * 2);
        Checks.due("UHL of 2/8", Checks.pair().utilNum(1) * 8, MixedCritKernel.UTIL_DEN * 2);
        Checks.due("UHH of 5/8", Checks.pair().utilNum(2) * 8, MixedCritKernel.UTIL_DEN * 5);
    }

    private static void taskCounters() {
        Checks.sentence("- Per-task counter kinds: `CNT_RELEASED = 0`, `CNT_COMPLETED = 1`, `CNT_ABORTED = 2`,"
            + " `CNT_DROPPED = 3`, `CNT_SKIPPED = 4`, `CNT_MISSED = 5`.");
        Checks.due("CNT_RELEASED", MixedCritKernel.CNT_RELEASED, 0);
        Checks.due("CNT_COMPLETED", MixedCritKernel.CNT_COMPLETED, 1);
        Checks.due("CNT_ABORTED", MixedCritKernel.CNT_ABORTED, 2);
        Checks.due("CNT_DROPPED", MixedCritKernel.CNT_DROPPED, 3);
        Checks.due("CNT_SKIPPED", MixedCritKernel.CNT_SKIPPED, 4);
        Checks.due("CNT_MISSED", MixedCritKernel.CNT_MISSED, 5);
    }

    private static void systemCounters() {
        Checks.sentence("- System counter kinds: `STAT_SWITCHES = 0`, `STAT_RESETS = 1`, `STAT_IDLE = 2`,"
            + " `STAT_BUSY = 3`.");
        Checks.due("STAT_SWITCHES", MixedCritKernel.STAT_SWITCHES, 0);
        Checks.due("STAT_RESETS", MixedCritKernel.STAT_RESETS, 1);
        Checks.due("STAT_IDLE", MixedCritKernel.STAT_IDLE, 2);
        Checks.due("STAT_BUSY", MixedCritKernel.STAT_BUSY, 3);
    }

    private static void wholeFace() throws IllegalAccessException {
        Checks.sentence(FACE);
        Class<?> kernel = MixedCritKernel.class;
        Set<String> due = new TreeSet<>();
        for (String line : FACE.split("\n")) {
            // Names of parameters are not kept in a compiled class.
            String member = line.strip().replaceAll("(\\w+) \\w+(?=[,)])", "$1");
            if (member.startsWith("public") && member.endsWith(";")) {
                due.add(member);
            }
        }
        Checks.due("members of the face", due.size(), 21 + 1 + 15);
        Checks.same("the class", Modifier.toString(kernel.getModifiers()) + " class " + kernel.getName(),
            "public final class MixedCritKernel");
        Checks.same("the members", String.join("\n", face(kernel)), String.join("\n", due));
        Checks.due("nested classes", kernel.getDeclaredClasses().length, 0);
    }

    /** Every member that is not private, as the document writes it. */
    private static Set<String> face(Class<?> kernel) throws IllegalAccessException {
        Set<String> found = new TreeSet<>();
        for (Field field : kernel.getDeclaredFields()) {
            if (isSeen(field)) {
                String value = Modifier.isStatic(field.getModifiers()) ? " = " + field.get(null) : "";
                found.add(beginning(field) + field.getType() + " " + field.getName() + value + ";");
            }
        }
        for (Constructor<?> constructor : kernel.getDeclaredConstructors()) {
            if (isSeen(constructor)) {
                found.add(beginning(constructor) + constructor.getName() + types(constructor.getParameterTypes()));
            }
        }
        for (Method method : kernel.getDeclaredMethods()) {
            if (isSeen(method)) {
                found.add(beginning(method) + method.getReturnType() + " " + method.getName()
                    + types(method.getParameterTypes()));
            }
        }
        return found;
    }

    private static String beginning(Member member) {
        return Modifier.toString(member.getModifiers()) + " ";
    }

    private static String types(Class<?>[] types) {
        return Arrays.stream(types).map(Class::getName).collect(Collectors.joining(", ", "(", ");"));
    }

    private static boolean isSeen(Member member) {
        return !Modifier.isPrivate(member.getModifiers());
    }
}
