/** The admission rules of "Terms used below". */
final class AdmissionRulesTest {
    private static final int LO = Checks.LO;
    private static final int HI = Checks.HI;
    private static final int REJECT = MixedCritKernel.VERDICT_REJECT;
    private static final int EDF = MixedCritKernel.VERDICT_EDF;
    private static final int VD = MixedCritKernel.VERDICT_VD;
    private static final long L = MixedCritKernel.UTIL_DEN;

    public static void main(String[] args) {
        exactInLong();
        firstRuleDecides();
        ruleOne();
        ruleTwo();
        ruleThree();
        ruleFour();
        factorOfRuleThree();
        lowestTerms();
        everyPairOfTasks();
        Checks.finish();
    }

    private static void exactInLong() {
        Checks.sentence("All arithmetic is exact in `long`");
        // The products of rule 3 are beyond int here, and cut to int they would stand in the other order.
        verdict("205920 * 360360 <= 308880 * 360360", VD, 4, 7, new int[][] {{2, 1, 1, LO}, {7, 2, 4, HI}});
        verdict("308880 * 360360 > 205920 * 360360", REJECT, 0, 0, new int[][] {{2, 1, 1, LO}, {7, 3, 5, HI}});
    }

    private static void firstRuleDecides() {
        Checks.sentence("the first rule that applies decides");
        // Rules 2 and 3 both apply: x is 1/1, not UHL / (L - ULL) = 1/3.
        verdict("rule 2 before rule 3", EDF, 1, 1, new int[][] {{4, 1, 1, LO}, {4, 1, 2, HI}});
        // Rules 1 and 3 both apply: both factors on the right of rule 3 are below 0.
        verdict("rule 1 before rule 3", REJECT, 0, 0, new int[][] {
            {1, 1, 1, LO}, {1, 1, 1, LO}, {16, 1, 16, HI}, {16, 1, 16, HI}, {16, 1, 16, HI}, {16, 1, 16, HI}});
        verdict("rule 1 before rule 3, ULL a little over L", REJECT, 0, 0, new int[][] {
            {1, 1, 1, LO}, {4, 1, 1, LO}, {16, 1, 16, HI}, {16, 1, 16, HI}, {16, 1, 16, HI}, {16, 1, 16, HI},
            {16, 1, 16, HI}, {16, 1, 16, HI}});
    }

    private static void ruleOne() {
        Checks.sentence("1. ULL + UHL > L: `VERDICT_REJECT`.");
        verdict("ULL = L", EDF, 1, 1, new int[][] {{16, 16, 0, LO}});
        verdict("UHL = L", EDF, 1, 1, new int[][] {{16, 16, 16, HI}});
        verdict("ULL + UHL = L", EDF, 1, 1, new int[][] {{16, 7, 7, LO}, {16, 9, 9, HI}});
        // L - 7 and L + 8 are the sums nearest to L that any tasks can have.
        verdict("ULL + UHL = L - 7", EDF, 1, 1, new int[][] {
            {9, 2, 2, HI}, {11, 1, 1, LO}, {13, 4, 4, HI}, {15, 1, 1, LO}, {16, 5, 5, LO}});
        verdict("ULL + UHL = L + 8", REJECT, 0, 0, new int[][] {
            {6, 1, 1, HI}, {7, 2, 2, LO}, {9, 2, 2, LO}, {11, 2, 2, LO}, {13, 1, 1, HI}, {15, 1, 1, LO}});
        verdict("ULL = L + 8", REJECT, 0, 0, new int[][] {
            {6, 1, 1, LO}, {7, 2, 2, LO}, {9, 2, 2, LO}, {11, 2, 2, LO}, {13, 1, 1, LO}, {15, 1, 1, LO}});
        verdict("eight full tasks", REJECT, 0, 0, new int[][] {
            {1, 1, 1, LO}, {1, 1, 1, HI}, {1, 1, 1, LO}, {1, 1, 1, HI}, {1, 1, 1, LO}, {1, 1, 1, HI}, {1, 1, 1, LO},
            {1, 1, 1, HI}});
    }

    private static void ruleTwo() {
        Checks.sentence("2. ULL + UHH <= L: `VERDICT_EDF`, x = 1/1.");
        verdict("one LO task", EDF, 1, 1, new int[][] {{4, 1, 0, LO}});
        verdict("one HI task, UHH = L", EDF, 1, 1, new int[][] {{4, 1, 4, HI}});
        verdict("ULL + UHH = L", EDF, 1, 1, new int[][] {{13, 1, 1, LO}, {13, 4, 12, HI}});
        verdict("ULL + UHH = L - 7", EDF, 1, 1, new int[][] {
            {9, 1, 2, HI}, {11, 1, 1, LO}, {13, 3, 4, HI}, {15, 1, 1, LO}, {16, 5, 5, LO}});
        // x = 168480 / 336952.
        verdict("ULL + UHH = L + 8", VD, 21060, 42119, new int[][] {
            {10, 1, 1, LO}, {15, 2, 2, LO}, {13, 1, 1, LO}, {9, 2, 2, LO}, {7, 1, 2, HI}, {11, 1, 2, HI}});
    }

    private static void ruleThree() {
        Checks.sentence("3. UHL * ULL <= (L - UHH) * (L - ULL): `VERDICT_VD`, x = UHL / (L - ULL).");
        verdict("ordinary", VD, 1, 2, new int[][] {{4, 2, 2, LO}, {8, 2, 5, HI}});
        verdict("equality, halves", VD, 1, 2, new int[][] {{2, 1, 1, LO}, {4, 1, 3, HI}});
        verdict("equality, thirteenths", VD, 6, 13, new int[][] {{13, 4, 11, HI}, {3, 1, 1, LO}});
        verdict("61776 below equality", VD, 24596, 46533, new int[][] {
            {15, 2, 8, HI}, {14, 1, 2, HI}, {7, 1, 1, LO}, {8, 1, 1, LO}, {10, 1, 1, LO}, {11, 1, 1, LO},
            {13, 2, 2, LO}});
    }

    private static void ruleFour() {
        Checks.sentence("4. Otherwise: `VERDICT_REJECT`.");
        verdict("24024 over equality", REJECT, 0, 0, new int[][] {
            {15, 3, 7, HI}, {14, 1, 2, HI}, {9, 1, 1, LO}, {11, 3, 3, LO}, {13, 1, 1, LO}, {15, 1, 1, LO},
            {16, 1, 1, LO}});
        verdict("UHH over L, no LO task", REJECT, 0, 0, new int[][] {{4, 1, 4, HI}, {4, 1, 1, HI}});
        verdict("UHH = L with a LO task", REJECT, 0, 0, new int[][] {{16, 1, 16, HI}, {16, 1, 1, LO}});
        verdict("ULL + UHL = L, UHH above UHL", REJECT, 0, 0, new int[][] {{2, 1, 1, LO}, {2, 1, 2, HI}});
    }

    private static void factorOfRuleThree() {
        Checks.sentence("When rule 3 applies, UHL >= 1 and L - ULL >= 1 always hold.");
        verdict("UHL = 0, ULL = L", EDF, 1, 1, new int[][] {{1, 1, 1, LO}});
        verdict("L - ULL = 0, UHL the least", REJECT, 0, 0, new int[][] {{1, 1, 1, LO}, {16, 1, 1, HI}});
        verdict("L - ULL = 0, UHH = L", REJECT, 0, 0, new int[][] {{1, 1, 1, LO}, {16, 1, 16, HI}});
        verdict("L - ULL below 0, UHH = L", REJECT, 0, 0, new int[][] {
            {1, 1, 1, LO}, {16, 1, 1, LO}, {16, 1, 16, HI}});
        verdict("UHL the least, L - ULL little more", VD, 15, 16, new int[][] {{15, 14, 14, LO}, {16, 1, 2, HI}});
    }

    private static void lowestTerms() {
        Checks.sentence("x is kept as `xNum / xDen` in lowest terms: both positive, greatest common divisor 1.");
        verdict("180180 / 360360", VD, 1, 2, new int[][] {{4, 2, 2, LO}, {8, 2, 5, HI}});
        verdict("45045 / 360360", VD, 1, 8, new int[][] {{16, 8, 8, LO}, {16, 1, 9, HI}});
        verdict("135135 / 450450", VD, 3, 10, new int[][] {
            {16, 1, 1, LO}, {8, 1, 6, HI}, {4, 1, 1, LO}, {16, 1, 1, LO}, {16, 1, 1, HI}});
        verdict("241605 / 405020", VD, 6903, 11572, new int[][] {
            {9, 1, 1, LO}, {16, 1, 1, LO}, {16, 1, 6, HI}, {11, 3, 4, HI}, {13, 1, 1, LO}, {16, 3, 3, LO}});
        verdict("720720 / 720720", EDF, 1, 1, new int[][] {{1, 1, 1, HI}});
    }

    /** Every LO task beside every HI task, and each alone. */
    private static void everyPairOfTasks() {
        Checks.sentence("All arithmetic is exact in `long`; the first rule that applies decides");
        for (int period = 1; period <= 16; period++) {
            for (int cLo = 1; cLo <= period; cLo++) {
                for (int cHi = cLo; cHi <= period; cHi++) {
                    byTheRules(new int[][] {{period, cLo, cHi, HI}});
                    besideEveryLoTask(period, cLo, cHi);
                }
                byTheRules(new int[][] {{period, cLo, cLo, LO}});
            }
        }
    }

    private static void besideEveryLoTask(int period, int cLo, int cHi) {
        for (int other = 1; other <= 16; other++) {
            for (int budget = 1; budget <= other; budget++) {
                byTheRules(new int[][] {{period, cLo, cHi, HI}, {other, budget, budget, LO}});
            }
        }
    }

    private static void byTheRules(int[][] tasks) {
        long loLo = 0;
        long hiLo = 0;
        long hiHi = 0;
        for (int[] task : tasks) {
            loLo += task[3] == LO ? task[1] * (L / task[0]) : 0;
            hiLo += task[3] == HI ? task[1] * (L / task[0]) : 0;
            hiHi += task[3] == HI ? task[2] * (L / task[0]) : 0;
        }
        int want = loLo + hiLo > L ? REJECT
            : loLo + hiHi <= L ? EDF
            : hiLo * loLo <= (L - hiHi) * (L - loLo) ? VD
            : REJECT;
        MixedCritKernel kernel = Checks.kernel(8, tasks);
        String name = java.util.Arrays.deepToString(tasks);
        Checks.due(name, kernel.admit(), want);
        if (want == VD) {
            long num = kernel.xNum();
            long den = kernel.xDen();
            Checks.due(name + " x is positive", num > 0 && den > 0, true);
            Checks.due(name + " x = UHL / (L - ULL)", num * (L - loLo), hiLo * den);
            Checks.due(name + " lowest terms", greatestCommonDivisor(num, den), 1);
        }
    }

    private static long greatestCommonDivisor(long one, long other) {
        return java.math.BigInteger.valueOf(one).gcd(java.math.BigInteger.valueOf(other)).longValue();
    }

    private static void verdict(String name, int want, int num, int den, int[][] tasks) {
        MixedCritKernel kernel = Checks.kernel(8, tasks);
        Checks.due(name + ": taskCount", kernel.taskCount(), tasks.length);
        Checks.due(name + ": admit", kernel.admit(), want);
        Checks.due(name + ": xNum", kernel.xNum(), num);
        Checks.due(name + ": xDen", kernel.xDen(), den);
        Checks.due(name + ": admitted", kernel.run(1) != -1, want != REJECT);
    }
}
