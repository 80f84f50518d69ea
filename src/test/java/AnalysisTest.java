import java.util.ArrayList;
import java.util.Arrays;
import java.util.List;

/** "What it is": the priority order and the analysis. */
public final class AnalysisTest {
    public static void main(String[] args) {
        shorterPeriodIsHigher();
        equalPeriodsGoBySlot();
        noLowerTask();
        greatestOfTheLower();
        higherTasksDoNotBlock();
        ceilingAtTheEdge();
        boundIsTheDeadline();
        boundIsOne();
        leastOfSeveral();
        noBound();
        termAloneFillsTheDeadline();
        everyTaskNeedsItsBound();
        blockingIsForTheAnalysisOnly();
        bothWaysToTheBound();
        Check.end();
    }

    private static void dueAnalysis(RateMonoKernel x, int slot, int term, int bound) {
        Check.dueField(x, slot, RateMonoKernel.F_BLOCK_TERM, term);
        Check.dueField(x, slot, RateMonoKernel.F_BOUND, bound);
    }

    private static void shorterPeriodIsHigher() {
        Check.opening("task a has higher priority than task b if T_a < T_b");
        // One tick apart, the shorter one in the higher slot, at both ends of the range.
        for (int t : new int[] {254, 128, 20}) {
            RateMonoKernel x = Check.with(2, 8, new int[][] {{t + 1, t + 1, 5, 3}, {t, t, 4, 2}});
            dueAnalysis(x, 1, 3, 7);
            dueAnalysis(x, 0, 0, 9);
        }
    }

    private static void equalPeriodsGoBySlot() {
        Check.opening("or if T_a == T_b and slot a < slot b");
        RateMonoKernel x = Check.with(3, 8, new int[][] {{30, 30, 5, 1}, {30, 30, 6, 2}, {30, 30, 7, 3}});
        dueAnalysis(x, 0, 3, 8);
        dueAnalysis(x, 1, 3, 14);
        dueAnalysis(x, 2, 0, 18);
        // Neither the deadline nor the cost decides.
        RateMonoKernel y = Check.with(2, 8, new int[][] {{30, 30, 9, 0}, {30, 20, 1, 0}});
        dueAnalysis(y, 0, 0, 9);
        dueAnalysis(y, 1, 0, 10);
    }

    private static void noLowerTask() {
        Check.opening("or 0 if there is none");
        RateMonoKernel alone = Check.with(2, 8, new int[][] {{255, 255, 255, 255}});
        dueAnalysis(alone, 0, 0, 255);
        RateMonoKernel x = Check.with(2, 8, new int[][] {{20, 20, 2, 9}, {40, 40, 3, 5}});
        dueAnalysis(x, 0, 5, 7);
        dueAnalysis(x, 1, 0, 5);
    }

    private static void greatestOfTheLower() {
        Check.opening("the greatest S_j over tasks j in SET of lower priority than i");
        int[][] orders = {{9, 4, 6}, {4, 9, 6}, {4, 6, 9}, {9, 9, 9}, {0, 0, 9}};
        for (int[] s : orders) {
            RateMonoKernel x = Check.with(4, 8, new int[][] {
                {25, 25, 1, 0}, {50, 50, 2, s[0]}, {100, 100, 3, s[1]}, {200, 200, 4, s[2]},
            });
            dueAnalysis(x, 0, 9, 10);
            dueAnalysis(x, 2, s[2], 3 + 3 + s[2]);
            dueAnalysis(x, 3, 0, 10);
        }
    }

    private static void higherTasksDoNotBlock() {
        Check.opening("S is the longest stretch for which this task may block tasks of higher priority.");
        RateMonoKernel x = Check.with(4, 8, new int[][] {
            {50, 50, 2, 9}, {100, 100, 3, 4}, {200, 200, 4, 6}, {25, 25, 1, 255},
        });
        dueAnalysis(x, 3, 9, 10);
        dueAnalysis(x, 0, 6, 9);
        dueAnalysis(x, 1, 6, 12);
        dueAnalysis(x, 2, 0, 10);
    }

    private static void ceilingAtTheEdge() {
        Check.opening("(integer division, i.e. the ceiling of R / T_j)");
        // R = 10 = 2 * 5: the release at 10 does not count in a window of 10.
        RateMonoKernel x = Check.with(2, 8, new int[][] {{5, 5, 2, 0}, {20, 20, 6, 0}});
        dueAnalysis(x, 1, 0, 10);
        // One tick of cost more, and the release at 10 does: 7 + 3 * 2.
        RateMonoKernel y = Check.with(2, 8, new int[][] {{5, 5, 2, 0}, {20, 20, 7, 0}});
        dueAnalysis(y, 1, 0, 13);
        // With T = 1 the ceiling of R / T is R itself: nothing is left for another task.
        RateMonoKernel z = Check.with(2, 8, new int[][] {{1, 1, 1, 0}});
        Check.due("admit beside T = 1", z.admit(255, 255, 1, 0), RateMonoKernel.ERR_UNSCHEDULABLE);
    }

    private static void boundIsTheDeadline() {
        Check.opening("The bound R_i is the least integer R with 1 <= R <= D_i and f_i(R) == R.");
        RateMonoKernel x = Check.with(2, 8, new int[][] {{5, 5, 2, 0}});
        Check.due("D one short of 10", x.admit(20, 9, 6, 0), RateMonoKernel.ERR_UNSCHEDULABLE);
        Check.due("D = 10", x.admit(20, 10, 6, 0), 1);
        dueAnalysis(x, 1, 0, 10);
        x.remove(1);
        Check.due("D one short of 13", x.admit(20, 12, 7, 0), RateMonoKernel.ERR_UNSCHEDULABLE);
        Check.due("D = 13", x.admit(20, 13, 7, 0), 1);
        dueAnalysis(x, 1, 0, 13);
        // All of the time, to the last tick.
        RateMonoKernel full = Check.with(3, 8, new int[][] {{2, 2, 1, 0}, {4, 4, 1, 0}, {8, 8, 2, 0}});
        dueAnalysis(full, 2, 0, 8);
    }

    private static void boundIsOne() {
        Check.opening("1 <= R");
        RateMonoKernel x = Check.with(2, 8, new int[][] {{1, 1, 1, 0}});
        dueAnalysis(x, 0, 0, 1);
        RateMonoKernel y = Check.with(2, 8, new int[][] {{255, 1, 1, 255}});
        dueAnalysis(y, 0, 0, 1);
    }

    private static void leastOfSeveral() {
        Check.opening("the least integer R");
        // 3 + 2 * ceil(R / 5) is R at 5 and again at 7.
        RateMonoKernel x = Check.with(2, 8, new int[][] {{5, 5, 2, 0}, {20, 20, 3, 0}});
        dueAnalysis(x, 1, 0, 5);
    }

    private static void noBound() {
        Check.opening("If no such R exists, task i is unschedulable.");
        RateMonoKernel x = Check.with(2, 8, new int[][] {{255, 255, 254, 0}});
        Check.due("one tick is left: C = 2", x.admit(255, 255, 2, 0), RateMonoKernel.ERR_UNSCHEDULABLE);
        Check.due("one tick is left: C = 1", x.admit(255, 255, 1, 0), 1);
        dueAnalysis(x, 1, 0, 255);
        // f is 11 for every R up to D = 10, and 11 itself is no bound then.
        RateMonoKernel y = Check.with(2, 8, new int[][] {{20, 10, 5, 0}});
        Check.due("admit(40, 10, 6, 0)", y.admit(40, 10, 6, 0), RateMonoKernel.ERR_UNSCHEDULABLE);
        // More is asked for than there is time, so that f stays above R for good.
        RateMonoKernel z = Check.with(2, 8, new int[][] {{3, 3, 2, 0}});
        Check.due("admit(255, 255, 100, 0)", z.admit(255, 255, 100, 0), RateMonoKernel.ERR_UNSCHEDULABLE);
    }

    private static void termAloneFillsTheDeadline() {
        Check.opening("f_i(R) = C_i + B_i");
        RateMonoKernel x = Check.with(2, 8, new int[][] {{255, 255, 1, 0}});
        Check.due("S = 255", x.admit(255, 255, 1, 255), RateMonoKernel.ERR_UNSCHEDULABLE);
        Check.due("S = 254", x.admit(255, 255, 1, 254), 1);
        dueAnalysis(x, 0, 254, 255);
        dueAnalysis(x, 1, 0, 2);
    }

    private static void everyTaskNeedsItsBound() {
        Check.opening("SET passes the analysis if every task in SET has a bound.");
        RateMonoKernel x = Check.with(3, 8, new int[][] {{20, 5, 5, 0}});
        Check.due("a lower one loses its bound", x.admit(10, 10, 1, 0), RateMonoKernel.ERR_UNSCHEDULABLE);
        Check.due("a higher one loses its bound", x.admit(30, 30, 1, 1), RateMonoKernel.ERR_UNSCHEDULABLE);
        Check.due("the candidate has none", x.admit(30, 5, 1, 0), RateMonoKernel.ERR_UNSCHEDULABLE);
        Check.due("all have one", x.admit(30, 6, 1, 0), 1);
        // The middle one of three: neither the first nor the last slot tells.
        RateMonoKernel y = Check.with(3, 8, new int[][] {{40, 40, 1, 0}, {20, 5, 5, 0}});
        Check.due("the middle one loses its bound", y.admit(10, 10, 1, 0), RateMonoKernel.ERR_UNSCHEDULABLE);
    }

    private static void blockingIsForTheAnalysisOnly() {
        Check.opening("It is used by the analysis only; the dispatcher never blocks.");
        RateMonoKernel x = Check.with(2, 8, new int[][] {{20, 20, 2, 0}, {40, 40, 9, 18}});
        x.setOffset(0, 1);
        x.start();
        int[] order = {1, 0, 0, 1};
        for (int slot : order) {
            x.run(1);
            Check.due("getRunning()", x.getRunning(), slot);
        }
    }

    /** Every pair of tasks up to T = 5, and a third one behind it. */
    private static void bothWaysToTheBound() {
        Check.opening("(f_i is monotone, so this equals the least R in [1, D_i] with f_i(R) <= R.)");
        List<int[]> tasks = smallTasks();
        for (int[] a : tasks) {
            for (int[] b : tasks) {
                dueByBothWays(new int[][] {a, b});
            }
        }
        int[][] pairs = {{3, 3, 1, 0}, {5, 4, 1, 1}, {7, 7, 2, 2}, {5, 5, 2, 0}, {4, 3, 1, 0}};
        for (int[] a : pairs) {
            for (int[] b : pairs) {
                for (int[] c : tasks) {
                    dueByBothWays(new int[][] {a, b, c});
                }
            }
        }
    }

    private static List<int[]> smallTasks() {
        List<int[]> tasks = new ArrayList<>();
        for (int t = 1; t <= 5; t++) {
            for (int d = 1; d <= t; d++) {
                for (int c = 1; c <= d; c++) {
                    for (int s = 0; s <= 2; s++) {
                        tasks.add(new int[] {t, d, c, s});
                    }
                }
            }
        }
        return tasks;
    }

    /** The last task joins the others if each one of the set has a bound, by == and by <=. */
    private static void dueByBothWays(int[][] set) {
        RateMonoKernel x = new RateMonoKernel(set.length, 8);
        int last = set.length - 1;
        for (int k = 0; k < last; k++) {
            if (x.admit(set[k][0], set[k][1], set[k][2], set[k][3]) != k) {
                return;
            }
        }
        boolean passes = true;
        for (int i = 0; i < set.length; i++) {
            int bound = leastEqual(set, i);
            Check.due("the least R by <=", leastNotAbove(set, i), bound);
            passes &= bound > 0;
        }
        String told = Arrays.deepToString(set);
        int answer = x.admit(set[last][0], set[last][1], set[last][2], set[last][3]);
        Check.due("the last admit of " + told, answer, passes ? last : RateMonoKernel.ERR_UNSCHEDULABLE);
        for (int i = 0; passes && i < set.length; i++) {
            Check.due("F_BOUND of " + i + " in " + told, x.getTask(i, RateMonoKernel.F_BOUND), leastEqual(set, i));
        }
    }

    private static int leastEqual(int[][] set, int i) {
        int r = 1;
        while (r <= set[i][1] && f(set, i, r) != r) {
            r++;
        }
        return r <= set[i][1] ? r : 0;
    }

    private static int leastNotAbove(int[][] set, int i) {
        int r = 1;
        while (r <= set[i][1] && f(set, i, r) > r) {
            r++;
        }
        return r <= set[i][1] ? r : 0;
    }

    private static int f(int[][] set, int i, int r) {
        int term = 0;
        int sum = 0;
        for (int j = 0; j < set.length; j++) {
            boolean higher = set[j][0] < set[i][0] || set[j][0] == set[i][0] && j < i;
            if (higher) {
                sum += (r + set[j][0] - 1) / set[j][0] * set[j][2];
            } else if (j != i) {
                term = Math.max(term, set[j][3]);
            }
        }
        return set[i][2] + term + sum;
    }
}
