import java.math.BigInteger;
import java.util.ArrayList;
import java.util.List;

/** The document once more, written with objects and exact fractions, to compare the kernel with. */
final class Model {
    private static final int LO = 0;
    private static final int HI = 1;
    private static final BigInteger L = BigInteger.valueOf(720720);

    private static final class Job {
        final long release;
        final int demand;
        int done = 0;

        Job(long release, int demand) {
            this.release = release;
            this.demand = demand;
        }
    }

    private static final class Task {
        final int period;
        final int cLo;
        final int cHi;
        final boolean high;
        final int[] counts = new int[6];
        int exec;
        Job job = null;

        Task(int period, int cLo, int cHi, boolean high) {
            this.period = period;
            this.cLo = cLo;
            this.cHi = high ? cHi : cLo;
            this.high = high;
            this.exec = cLo;
        }

        void end(int kind) {
            job = null;
            counts[kind]++;
        }
    }

    private final int capacity;
    private final List<Task> tasks = new ArrayList<>();
    private final int[] stats = new int[4];
    private boolean admitted = false;
    private boolean high = false;
    private long time = 0;
    private int last = -1;
    private BigInteger num = BigInteger.ZERO;
    private BigInteger den = BigInteger.ZERO;

    Model(int capacity) {
        this.capacity = Math.max(1, Math.min(8, capacity));
    }

    int addTask(int period, int cLo, int cHi, int crit) {
        if (admitted) return -1;
        if (tasks.size() == capacity) return -1;
        if (crit != LO && crit != HI) return -1;
        if (period < 1 || period > 16) return -1;
        if (cLo < 1 || cLo > period) return -1;
        if (crit == HI && (cHi < cLo || cHi > period)) return -1;
        tasks.add(new Task(period, cLo, cHi, crit == HI));
        return tasks.size() - 1;
    }

    boolean setExec(int task, int demand) {
        if (task < 0 || task >= tasks.size() || demand < 1 || demand > 32) return false;
        tasks.get(task).exec = demand;
        return true;
    }

    int taskCount() {
        return tasks.size();
    }

    int utilNum(int kind) {
        if (kind < 0 || kind > 2) return -1;
        return util(kind).intValueExact();
    }

    private BigInteger util(int kind) {
        BigInteger sum = BigInteger.ZERO;
        for (Task task : tasks) {
            if (task.high == (kind != 0)) {
                int budget = kind == 2 ? task.cHi : task.cLo;
                sum = sum.add(L.divide(BigInteger.valueOf(task.period)).multiply(BigInteger.valueOf(budget)));
            }
        }
        return sum;
    }

    int admit() {
        if (admitted || tasks.isEmpty()) return -1;
        BigInteger loLo = util(0);
        BigInteger hiLo = util(1);
        BigInteger hiHi = util(2);
        if (loLo.add(hiLo).compareTo(L) > 0) return 0;
        boolean plain = loLo.add(hiHi).compareTo(L) <= 0;
        BigInteger right = L.subtract(hiHi).multiply(L.subtract(loLo));
        if (!plain && hiLo.multiply(loLo).compareTo(right) > 0) return 0;
        num = plain ? BigInteger.ONE : hiLo;
        den = plain ? BigInteger.ONE : L.subtract(loLo);
        BigInteger common = num.gcd(den);
        num = num.divide(common);
        den = den.divide(common);
        admitted = true;
        releaseAll();
        return plain ? 1 : 2;
    }

    int run(int steps) {
        if (!admitted || steps < 1 || steps > 1000) return -1;
        int before = stats[3];
        for (int i = 0; i < steps; i++) tick();
        return stats[3] - before;
    }

    private void tick() {
        last = -1;
        for (int i = 0; i < tasks.size(); i++) {
            if (tasks.get(i).job != null && (last == -1 || key(i).compareTo(key(last)) < 0)) last = i;
        }
        if (last == -1) {
            stats[2]++;
        } else {
            stats[3]++;
            execute(tasks.get(last));
        }
        time++;
        for (Task task : tasks) {
            if (task.job != null && task.job.release + task.period <= time) task.end(5);
        }
        if (high && tasks.stream().allMatch(task -> task.job == null)) {
            high = false;
            stats[1]++;
        }
        releaseAll();
    }

    private void execute(Task task) {
        int done = ++task.job.done;
        if (done == task.job.demand) {
            task.end(1);
        } else if (!task.high) {
            if (done == task.cLo) task.end(2);
        } else {
            if (!high && done == task.cLo) {
                high = true;
                stats[0]++;
                for (Task other : tasks) {
                    if (!other.high && other.job != null) other.end(3);
                }
            }
            if (done == task.cHi) task.end(2);
        }
    }

    private void releaseAll() {
        for (Task task : tasks) {
            if (time % task.period != 0) continue;
            if (high && !task.high) {
                task.counts[4]++;
            } else {
                task.counts[0]++;
                task.job = new Job(time, task.exec);
            }
        }
    }

    private BigInteger key(int index) {
        Task task = tasks.get(index);
        BigInteger release = BigInteger.valueOf(task.job.release);
        BigInteger period = BigInteger.valueOf(task.period);
        if (task.high && !high) return release.multiply(den).add(num.multiply(period));
        return release.add(period).multiply(den);
    }

    private boolean hasJob(int task) {
        return task >= 0 && task < tasks.size() && tasks.get(task).job != null;
    }

    private int count(int task, int kind) {
        if (kind < 0 || kind > 5 || task < -1 || task >= tasks.size()) return -1;
        if (task >= 0) return tasks.get(task).counts[kind];
        return tasks.stream().mapToInt(each -> each.counts[kind]).sum();
    }

    /** As Checks.state() of a kernel. */
    String state() {
        StringBuilder text = new StringBuilder();
        text.append("tasks ").append(tasks.size());
        text.append(" util -1 ").append(util(0)).append(' ').append(util(1)).append(' ').append(util(2)).append(" -1");
        text.append(" time ").append(time).append(" mode ").append(high ? 1 : 0);
        text.append(" x ").append(num).append('/').append(den);
        text.append(" last ").append(last);
        text.append(" stats -1 ").append(stats[0]).append(' ').append(stats[1]);
        text.append(' ').append(stats[2]).append(' ').append(stats[3]).append(" -1");
        for (int task = -1; task <= tasks.size(); task++) {
            text.append(" [").append(task).append(": ");
            text.append(hasJob(task) ? tasks.get(task).job.done : -1).append(' ');
            text.append(hasJob(task) ? key(task) : BigInteger.ONE.negate());
            for (int kind = -1; kind <= 6; kind++) {
                text.append(' ').append(count(task, kind));
            }
            text.append(']');
        }
        return text.toString();
    }
}
