import java.util.function.Supplier;

/** Promise 2: admit. The analysis itself has its tests in AnalysisTest. */
public final class AdmitTest {
    public static void main(String[] args) {
        whenRunning();
        periodOutOfRange();
        deadlineOutOfRange();
        costOutOfRange();
        blockingOutOfRange();
        edgesOfTheRanges();
        noFreeSlot();
        smallestFreeSlot();
        setFailsTheAnalysis();
        candidateTiesBySlot();
        firstThatApplies();
        refusedWhenRunningChangesNothing();
        refusedForRangeChangesNothing();
        refusedWhenFullChangesNothing();
        refusedByTheAnalysisChangesNothing();
        newTask();
        freedSlotStartsAnew();
        everyTaskIsRecomputed();
        othersDoNotChange();
        Check.end();
    }

    private static int ask(RateMonoKernel x, int[] a) {
        return x.admit(a[0], a[1], a[2], a[3]);
    }

    private static String told(int[] a) {
        return "admit(" + a[0] + ", " + a[1] + ", " + a[2] + ", " + a[3] + ")";
    }

    /** Asked of an empty object and of one with a task and a free slot. */
    private static void outOfRange(int period, int deadline, int cost, int blocking) {
        int[] a = {period, deadline, cost, blocking};
        Check.due(told(a), ask(new RateMonoKernel(2, 8), a), RateMonoKernel.ERR_RANGE);
        RateMonoKernel x = Check.with(2, 8, new int[][] {{200, 200, 1, 0}});
        Check.due(told(a) + " as the second", ask(x, a), RateMonoKernel.ERR_RANGE);
        Check.due("getTaskCount()", x.getTaskCount(), 1);
    }

    private static void whenRunning() {
        Check.sentence(2, "If the phase is RUNNING, the answer is `ERR_STARTED`.");
        RateMonoKernel x = Check.with(2, 8, new int[][] {{10, 10, 1, 0}});
        x.start();
        Check.due("before the first tick", x.admit(10, 10, 1, 0), RateMonoKernel.ERR_STARTED);
        x.run(1);
        Check.due("after a tick", x.admit(10, 10, 1, 0), RateMonoKernel.ERR_STARTED);
        RateMonoKernel empty = new RateMonoKernel(1, 8);
        empty.start();
        Check.due("with no task in use", empty.admit(1, 1, 1, 0), RateMonoKernel.ERR_STARTED);
    }

    private static void periodOutOfRange() {
        Check.sentence(2, "If T is not in [1, 255]");
        for (int period : Check.outside(1, 255)) {
            outOfRange(period, 1, 1, 0);
        }
        outOfRange(0, 0, 0, 0);
        outOfRange(256, 256, 1, 0);
        outOfRange(256, 256, 256, 255);
    }

    private static void deadlineOutOfRange() {
        Check.sentence(2, "or D is not in [1, T]");
        for (int deadline : Check.outside(1, 100)) {
            outOfRange(100, deadline, 1, 0);
        }
        outOfRange(100, 0, 0, 0);
        outOfRange(1, 2, 1, 0);
        outOfRange(100, 255, 1, 0);
        outOfRange(255, 256, 1, 0);
    }

    private static void costOutOfRange() {
        Check.sentence(2, "or C is not in [1, D]");
        for (int cost : Check.outside(1, 50)) {
            outOfRange(100, 50, cost, 0);
        }
        outOfRange(100, 50, 100, 0);
        outOfRange(1, 1, 0, 0);
        outOfRange(1, 1, 2, 0);
        outOfRange(255, 255, 256, 0);
    }

    private static void blockingOutOfRange() {
        Check.sentence(2, "or S is not in [0, 255], the answer is `ERR_RANGE`.");
        for (int blocking : Check.outside(0, 255)) {
            outOfRange(100, 50, 1, blocking);
        }
    }

    private static void edgesOfTheRanges() {
        Check.sentence(2, "T is not in [1, 255], or D is not in [1, T], or C is not in [1, D], or S is not in [0, 255]");
        int[][] right = {
            {1, 1, 1, 0}, {1, 1, 1, 255}, {255, 255, 255, 255}, {255, 255, 255, 0}, {255, 255, 1, 0}, {255, 1, 1, 0},
            {2, 1, 1, 0}, {2, 2, 1, 0}, {2, 2, 2, 0}, {254, 254, 254, 254}, {100, 50, 50, 0}, {100, 50, 1, 1},
        };
        for (int[] a : right) {
            RateMonoKernel x = new RateMonoKernel(2, 8);
            Check.due(told(a), ask(x, a), 0);
            Check.dueTask(x, 0, a[0], a[1], a[2], a[3], 0, a[2], a[2], 0);
        }
    }

    private static void noFreeSlot() {
        Check.sentence(2, "If there is no free slot among `0..maxTasks-1`, the answer is `ERR_FULL`.");
        for (int maxTasks = 1; maxTasks <= 8; maxTasks++) {
            RateMonoKernel x = new RateMonoKernel(maxTasks, 8);
            for (int k = 0; k < maxTasks; k++) {
                Check.due("admit, " + k + " of " + maxTasks + " in use", x.admit(100, 100, 1, 0), k);
            }
            Check.due("admit, all " + maxTasks + " in use", x.admit(100, 100, 1, 0), RateMonoKernel.ERR_FULL);
            for (int k = 0; k < maxTasks; k++) {
                x.remove(k);
                Check.due("admit with slot " + k + " free", x.admit(100, 100, 1, 0), k);
                Check.due("admit when full again", x.admit(100, 100, 1, 0), RateMonoKernel.ERR_FULL);
            }
        }
    }

    private static void smallestFreeSlot() {
        Check.sentence(2, "The candidate is given the smallest free slot k.");
        RateMonoKernel x = Sets.full(8);
        x.remove(7);
        x.remove(2);
        x.remove(0);
        x.remove(1);
        for (int slot : new int[] {0, 1, 2, 7}) {
            Check.due("admit into the next gap", x.admit(50, 50, 1, 0), slot);
            Check.dueField(x, slot, RateMonoKernel.F_PERIOD, 50);
        }
    }

    private static void setFailsTheAnalysis() {
        Check.sentence(2, "fails the analysis, the answer is `ERR_UNSCHEDULABLE`.");
        RateMonoKernel x = Check.with(2, 8, new int[][] {{10, 10, 6, 0}});
        Check.due("one tick too much", x.admit(10, 10, 5, 0), RateMonoKernel.ERR_UNSCHEDULABLE);
        Check.due("just room enough", x.admit(10, 10, 4, 0), 1);
        RateMonoKernel full = Check.with(8, 8, new int[][] {{255, 255, 255, 0}});
        Check.due("no room at all", full.admit(255, 255, 1, 0), RateMonoKernel.ERR_UNSCHEDULABLE);
        Check.due("asked again", full.admit(1, 1, 1, 0), RateMonoKernel.ERR_UNSCHEDULABLE);
    }

    private static void candidateTiesBySlot() {
        Check.sentence(2, "ties in T are broken by slot numbers with the candidate at k");
        RateMonoKernel x = Check.with(2, 8, new int[][] {{90, 90, 1, 0}, {10, 4, 4, 0}});
        x.remove(0);
        // In slot 0 the candidate outranks the old task, which then has no room left.
        Check.due("admit(10, 10, 1, 0) into slot 0", x.admit(10, 10, 1, 0), RateMonoKernel.ERR_UNSCHEDULABLE);
        // Without a tie the slot does not count.
        Check.due("admit(9, 9, 1, 0) into slot 0", x.admit(9, 9, 1, 0), RateMonoKernel.ERR_UNSCHEDULABLE);
        Check.due("admit(11, 11, 1, 0) into slot 0", x.admit(11, 11, 1, 0), 0);

        RateMonoKernel y = Check.with(2, 8, new int[][] {{10, 4, 4, 0}});
        Check.due("admit(10, 10, 1, 0) into slot 1", y.admit(10, 10, 1, 0), 1);
    }

    /** All pairs of refusals that can meet in one call. */
    private static void firstThatApplies() {
        Check.sentence(2, "The tests are made in this order, and the first that applies gives the answer");
        RateMonoKernel full = Check.with(1, 8, new int[][] {{10, 10, 10, 0}});
        Check.due("range before full", full.admit(0, 0, 0, 0), RateMonoKernel.ERR_RANGE);
        Check.due("range before full", full.admit(10, 10, 1, 256), RateMonoKernel.ERR_RANGE);
        Check.due("full before unschedulable", full.admit(10, 10, 10, 0), RateMonoKernel.ERR_FULL);
        full.start();
        Check.due("started before full", full.admit(100, 100, 1, 0), RateMonoKernel.ERR_STARTED);
        Check.due("started before range", full.admit(0, 0, 0, 0), RateMonoKernel.ERR_STARTED);
        Check.due("started before range", full.admit(10, 10, 1, -1), RateMonoKernel.ERR_STARTED);

        RateMonoKernel busy = Check.with(2, 8, new int[][] {{10, 10, 10, 0}});
        Check.due("range before unschedulable", busy.admit(10, 10, 10, 256), RateMonoKernel.ERR_RANGE);
        Check.due("unschedulable", busy.admit(10, 10, 10, 255), RateMonoKernel.ERR_UNSCHEDULABLE);
        busy.start();
        Check.due("started before unschedulable", busy.admit(10, 10, 10, 0), RateMonoKernel.ERR_STARTED);
    }

    private static RateMonoKernel three() {
        RateMonoKernel x = Check.with(4, 8, new int[][] {{20, 10, 3, 2}, {40, 40, 5, 4}, {40, 30, 2, 1}});
        x.setOffset(1, 9);
        x.setDemand(1, 8);
        return x;
    }

    private static void refusedAdmit(Supplier<RateMonoKernel> maker, int want, int[][] asked) {
        for (int[] a : asked) {
            Check.noTrace(told(a), maker, x -> ask(x, a), want);
        }
    }

    private static final String NO_CHANGE =
        "A refused call changes nothing: no slot, bound, blocking term or other value is altered.";

    private static void refusedWhenRunningChangesNothing() {
        Check.sentence(2, NO_CHANGE, "`ERR_STARTED`");
        int[][] asked = {{80, 80, 1, 0}, {5, 5, 1, 0}, {0, 0, 0, 0}};
        for (int ticks : new int[] {0, 1, 10}) {
            refusedAdmit(() -> Sets.threeAt(ticks), RateMonoKernel.ERR_STARTED, asked);
        }
    }

    private static void refusedForRangeChangesNothing() {
        Check.sentence(2, NO_CHANGE, "`ERR_RANGE`");
        int[][] asked = {{256, 80, 1, 0}, {80, 81, 1, 0}, {80, 80, 0, 0}, {80, 80, 1, 256}, {80, 80, 1, -1}};
        refusedAdmit(AdmitTest::three, RateMonoKernel.ERR_RANGE, asked);
        refusedAdmit(() -> new RateMonoKernel(1, 8), RateMonoKernel.ERR_RANGE, asked);
    }

    private static void refusedWhenFullChangesNothing() {
        Check.sentence(2, NO_CHANGE, "`ERR_FULL`");
        int[][] asked = {{80, 80, 1, 0}, {5, 5, 1, 0}, {80, 80, 1, 5}};
        refusedAdmit(() -> {
            RateMonoKernel x = three();
            x.admit(200, 200, 1, 0);
            return x;
        }, RateMonoKernel.ERR_FULL, asked);
        refusedAdmit(() -> Check.with(1, 8, new int[][] {{20, 20, 2, 0}}), RateMonoKernel.ERR_FULL, asked);
    }

    private static void refusedByTheAnalysisChangesNothing() {
        Check.sentence(2, NO_CHANGE, "`ERR_UNSCHEDULABLE`");
        // The candidate has no bound, a lower task loses its bound, a higher one does.
        int[][] asked = {{50, 6, 6, 3}, {10, 10, 9, 0}, {50, 50, 1, 9}};
        refusedAdmit(AdmitTest::three, RateMonoKernel.ERR_UNSCHEDULABLE, asked);
        refusedAdmit(() -> {
            RateMonoKernel x = three();
            x.setOffset(0, 200);
            x.setDemand(0, 900);
            x.remove(0);
            return x;
        }, RateMonoKernel.ERR_UNSCHEDULABLE, new int[][] {{50, 6, 6, 3}, {39, 39, 39, 0}});
        RateMonoKernel x = three();
        x.admit(50, 6, 6, 3);
        Check.due("the same slot is still free", x.admit(80, 80, 1, 0), 3);
        Check.dueTask(x, 3, 80, 80, 1, 0, 0, 1, 11, 0);
    }

    private static void newTask() {
        Check.sentence(2, "with the given T, D, C and S, offset 0, demand C, and all counts 0");
        RateMonoKernel x = Check.with(3, 8, new int[][] {{20, 15, 4, 7}});
        Check.dueTask(x, 0, 20, 15, 4, 7, 0, 4, 4, 0, 0, 0, 0, 0, 0, 0, 0);
    }

    private static void freedSlotStartsAnew() {
        Check.sentence(2, "slot k comes into use with the given T, D, C and S, offset 0, demand C", "a slot freed before");
        RateMonoKernel x = Check.with(1, 8, new int[][] {{20, 10, 3, 2}});
        x.setOffset(0, 200);
        x.setDemand(0, 900);
        x.remove(0);
        Check.due("admit(9, 8, 7, 6)", x.admit(9, 8, 7, 6), 0);
        Check.dueTask(x, 0, 9, 8, 7, 6, 0, 7, 7, 0, 0, 0, 0, 0, 0, 0, 0);
        x.start();
        x.run(7);
        Check.dueLog(x, 7);
    }

    private static void everyTaskIsRecomputed() {
        Check.sentence(2, "B_i and R_i of every task in use, including the new one, are recomputed for the new set");
        RateMonoKernel x = Check.with(3, 8, new int[][] {{20, 20, 2, 1}, {80, 80, 4, 2}});
        Check.dueTask(x, 0, 20, 20, 2, 1, 0, 2, 4, 2);
        Check.dueTask(x, 1, 80, 80, 4, 2, 0, 4, 6, 0);
        // Between the two: the higher one gets another term, the lower one another bound.
        Check.due("admit(40, 40, 3, 9)", x.admit(40, 40, 3, 9), 2);
        Check.dueTask(x, 0, 20, 20, 2, 1, 0, 2, 11, 9);
        Check.dueTask(x, 1, 80, 80, 4, 2, 0, 4, 9, 0);
        Check.dueTask(x, 2, 40, 40, 3, 9, 0, 3, 7, 2);
    }

    private static void othersDoNotChange() {
        Check.sentence(2, "Time, the running task, the idle and preemption counts and the log do not change.");
        RateMonoKernel x = three();
        Check.due("admit(80, 80, 1, 0)", x.admit(80, 80, 1, 0), 3);
        Check.due("isStarted()", x.isStarted(), false);
        Check.due("getTime()", x.getTime(), 0);
        Check.due("getRunning()", x.getRunning(), -1);
        Check.due("getIdleTicks()", x.getIdleTicks(), 0);
        Check.due("getPreemptions()", x.getPreemptions(), 0);
        Check.due("getLogCount()", x.getLogCount(), 0);
        Check.dueField(x, 1, RateMonoKernel.F_OFFSET, 9);
        Check.dueField(x, 1, RateMonoKernel.F_DEMAND, 8);
    }
}
