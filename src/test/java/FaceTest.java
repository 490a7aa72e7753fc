import java.lang.reflect.Constructor;
import java.lang.reflect.Field;
import java.lang.reflect.Member;
import java.lang.reflect.Method;
import java.lang.reflect.Modifier;
import java.util.Arrays;
import java.util.Set;
import java.util.TreeSet;

/** The public face of the document: every constant, the constructor and every method, and no more. */
final class FaceTest {
    private static final Set<String> FACE = new TreeSet<>(Arrays.asList(
        "LO = 0", "HI = 1",
        "VERDICT_REFUSED = -1", "VERDICT_REJECT = 0", "VERDICT_EDF = 1", "VERDICT_VD = 2",
        "UTIL_DEN = 720720", "UTIL_LO_LO = 0", "UTIL_HI_LO = 1", "UTIL_HI_HI = 2",
        "CNT_RELEASED = 0", "CNT_COMPLETED = 1", "CNT_ABORTED = 2",
        "CNT_DROPPED = 3", "CNT_SKIPPED = 4", "CNT_MISSED = 5",
        "STAT_SWITCHES = 0", "STAT_RESETS = 1", "STAT_IDLE = 2", "STAT_BUSY = 3",
        "MAX_STEPS = 1000",
        "new [int]",
        "int addTask [int, int, int, int]", "boolean setExec [int, int]", "int taskCount []",
        "int utilNum [int]", "int admit []", "int run [int]", "int time []", "int mode []",
        "int xNum []", "int xDen []", "int lastRan []", "int jobDone [int]", "long jobDeadline [int]",
        "int counter [int, int]", "int stat [int]"));

    public static void main(String[] args) throws IllegalAccessException {
        Class<?> kernel = MixedCritKernel.class;
        int classFlags = kernel.getModifiers();
        Checks.due("public and final", Modifier.isPublic(classFlags) && Modifier.isFinal(classFlags), true);
        Checks.same("the face", face(kernel).toString(), FACE.toString());
        Checks.due("nested classes", kernel.getDeclaredClasses().length, 0);
        Checks.finish();
    }

    private static Set<String> face(Class<?> kernel) throws IllegalAccessException {
        Set<String> found = new TreeSet<>();
        for (Field field : kernel.getDeclaredFields()) {
            if (isSeen(field)) {
                boolean constant = Modifier.isStatic(field.getModifiers()) && Modifier.isFinal(field.getModifiers())
                    && field.getType() == int.class;
                found.add(field.getName() + (constant ? " = " + field.getInt(null) : " is no int constant"));
            }
        }
        for (Constructor<?> constructor : kernel.getDeclaredConstructors()) {
            if (isSeen(constructor)) {
                found.add("new " + Arrays.toString(constructor.getParameterTypes()));
            }
        }
        for (Method method : kernel.getDeclaredMethods()) {
            if (isSeen(method)) {
                found.add((Modifier.isStatic(method.getModifiers()) ? "static " : "") + method.getReturnType() + " "
                    + method.getName() + " " + Arrays.toString(method.getParameterTypes()));
            }
        }
        return found;
    }

    private static boolean isSeen(Member member) {
        return !Modifier.isPrivate(member.getModifiers());
    }
}
