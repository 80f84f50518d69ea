/** Promise 2 and the analysis. */
public final class AdmitTest {
    public static void main(String[] args) {
        newTask();
        ranges();
        orderOfRefusals();
        smallestFreeSlot();
        blockingTerms();
        tiesGoBySlot();
        candidateWithTieInLowerSlot();
        deadlineEdge();
        candidateBreaksOthers();
        refusalKeepsTheSet();
        freedSlotStartsAnew();
        Check.end();
    }

    private static void newTask() {
        RateMonoKernel x = new RateMonoKernel(3, 8);
        Check.due("admit(20, 15, 4, 7)", x.admit(20, 15, 4, 7), 0);
        Check.dueTask(x, 0, 20, 15, 4, 7, 0, 4, 4, 0, 0, 0, 0, 0, 0, 0, 0);
        Check.due("getTime()", x.getTime(), 0);
        Check.due("getRunning()", x.getRunning(), -1);
        Check.due("getIdleTicks()", x.getIdleTicks(), 0);
        Check.due("getPreemptions()", x.getPreemptions(), 0);
        Check.due("getLogCount()", x.getLogCount(), 0);
        Check.due("isStarted()", x.isStarted(), false);
    }

    private static void ranges() {
        int[][] wrong = {
            {0, 1, 1, 0}, {0, 0, 0, 0}, {-1, 1, 1, 0}, {256, 10, 1, 0}, {256, 256, 1, 0},
            {Integer.MIN_VALUE, 1, 1, 0}, {Integer.MAX_VALUE, 1, 1, 0},
            {10, 0, 0, 0}, {10, 0, 1, 0}, {10, -1, 1, 0}, {10, 11, 1, 0},
            {10, Integer.MIN_VALUE, 1, 0}, {10, Integer.MAX_VALUE, 1, 0},
            {10, 5, 0, 0}, {10, 5, -1, 0}, {10, 5, 6, 0},
            {10, 5, Integer.MIN_VALUE, 0}, {10, 5, Integer.MAX_VALUE, 0},
            {10, 5, 5, -1}, {10, 5, 5, 256},
            {10, 5, 5, Integer.MIN_VALUE}, {10, 5, 5, Integer.MAX_VALUE},
        };
        for (int[] w : wrong) {
            RateMonoKernel x = new RateMonoKernel(2, 8);
            Check.changesNothing("admit out of range", x, k ->
                Check.due("admit(" + w[0] + ", " + w[1] + ", " + w[2] + ", " + w[3] + ")",
                    k.admit(w[0], w[1], w[2], w[3]), RateMonoKernel.ERR_RANGE));
        }
        int[][] right = {
            {1, 1, 1, 0}, {255, 255, 255, 255}, {255, 1, 1, 0}, {255, 255, 1, 0}, {10, 10, 10, 0}, {10, 5, 5, 1},
        };
        for (int[] r : right) {
            RateMonoKernel x = new RateMonoKernel(2, 8);
            Check.due("admit at the edge", x.admit(r[0], r[1], r[2], r[3]), 0);
            Check.dueTask(x, 0, r[0], r[1], r[2], r[3], 0, r[2], r[2], 0);
        }
    }

    private static void orderOfRefusals() {
        RateMonoKernel x = new RateMonoKernel(1, 8);
        x.admit(10, 10, 10, 0);
        Check.due("out of range before full", x.admit(0, 0, 0, 0), RateMonoKernel.ERR_RANGE);
        Check.due("full before unschedulable", x.admit(10, 10, 10, 0), RateMonoKernel.ERR_FULL);
        x.start();
        Check.due("started before out of range", x.admit(0, 0, 0, 0), RateMonoKernel.ERR_STARTED);
        Check.due("started before full", x.admit(10, 10, 1, 0), RateMonoKernel.ERR_STARTED);

        RateMonoKernel y = new RateMonoKernel(2, 8);
        y.start();
        Check.changesNothing("admit when started", y, k ->
            Check.due("started with a free slot", k.admit(10, 10, 1, 0), RateMonoKernel.ERR_STARTED));
    }

    private static void smallestFreeSlot() {
        RateMonoKernel x = new RateMonoKernel(4, 8);
        for (int k = 0; k < 4; k++) {
            Check.due("admit", x.admit(100, 100, 1, 0), k);
        }
        x.remove(2);
        x.remove(1);
        Check.due("admit into the smaller gap", x.admit(50, 50, 1, 0), 1);
        Check.due("admit into the other gap", x.admit(60, 60, 1, 0), 2);
        Check.due("admit when full", x.admit(60, 60, 1, 0), RateMonoKernel.ERR_FULL);
    }

    private static void blockingTerms() {
        RateMonoKernel x = new RateMonoKernel(4, 8);
        x.admit(50, 50, 2, 9);
        x.admit(100, 100, 3, 4);
        x.admit(200, 200, 4, 6);
        x.admit(25, 25, 1, 20);
        // Order of priority: 3, 0, 1, 2. The S of a task of higher priority never counts.
        Check.dueField(x, 3, RateMonoKernel.F_BLOCK_TERM, 9);
        Check.dueField(x, 0, RateMonoKernel.F_BLOCK_TERM, 6);
        Check.dueField(x, 1, RateMonoKernel.F_BLOCK_TERM, 6);
        Check.dueField(x, 2, RateMonoKernel.F_BLOCK_TERM, 0);
        Check.dueField(x, 3, RateMonoKernel.F_BOUND, 10);
        Check.dueField(x, 0, RateMonoKernel.F_BOUND, 9);
        Check.dueField(x, 1, RateMonoKernel.F_BOUND, 12);
        Check.dueField(x, 2, RateMonoKernel.F_BOUND, 10);
    }

    private static void tiesGoBySlot() {
        RateMonoKernel x = new RateMonoKernel(3, 8);
        x.admit(30, 30, 5, 1);
        x.admit(30, 30, 6, 2);
        x.admit(30, 30, 7, 3);
        Check.dueTask(x, 0, 30, 30, 5, 1, 0, 5, 8, 3);
        Check.dueTask(x, 1, 30, 30, 6, 2, 0, 6, 14, 3);
        Check.dueTask(x, 2, 30, 30, 7, 3, 0, 7, 18, 0);
    }

    private static void candidateWithTieInLowerSlot() {
        RateMonoKernel x = new RateMonoKernel(2, 8);
        x.admit(90, 90, 1, 0);
        x.admit(10, 4, 4, 0);
        x.remove(0);
        // In slot 0 the candidate outranks the old task, which then has no room left.
        Check.due("admit(10, 10, 1, 0)", x.admit(10, 10, 1, 0), RateMonoKernel.ERR_UNSCHEDULABLE);

        RateMonoKernel y = new RateMonoKernel(2, 8);
        y.admit(10, 4, 4, 0);
        // In slot 1 it stands behind the old task.
        Check.due("admit(10, 10, 1, 0)", y.admit(10, 10, 1, 0), 1);
    }

    private static void deadlineEdge() {
        RateMonoKernel x = new RateMonoKernel(2, 8);
        x.admit(5, 5, 2, 0);
        // R = 6 + 2 * 2 = 10 fits D = 10 to the tick, where a release at 10 no longer counts.
        Check.due("D one short", x.admit(20, 9, 6, 0), RateMonoKernel.ERR_UNSCHEDULABLE);
        Check.due("D met", x.admit(20, 10, 6, 0), 1);
        Check.dueField(x, 1, RateMonoKernel.F_BOUND, 10);
        // The bound jumps by a whole C when one more release comes into the window.
        x.remove(1);
        Check.due("one tick more, D short", x.admit(20, 12, 7, 0), RateMonoKernel.ERR_UNSCHEDULABLE);
        Check.due("one tick more, D met", x.admit(20, 13, 7, 0), 1);
        Check.dueField(x, 1, RateMonoKernel.F_BOUND, 13);

        RateMonoKernel full = new RateMonoKernel(3, 8);
        Check.due("half of all time", full.admit(2, 2, 1, 0), 0);
        Check.due("a quarter", full.admit(4, 4, 1, 0), 1);
        Check.due("too much for the rest", full.admit(8, 8, 3, 0), RateMonoKernel.ERR_UNSCHEDULABLE);
        Check.due("the last quarter", full.admit(8, 8, 2, 0), 2);
        Check.dueField(full, 2, RateMonoKernel.F_BOUND, 8);
    }

    private static void candidateBreaksOthers() {
        RateMonoKernel x = new RateMonoKernel(2, 8);
        x.admit(20, 5, 5, 0);
        Check.due("interference breaks a lower one", x.admit(10, 10, 1, 0), RateMonoKernel.ERR_UNSCHEDULABLE);
        Check.due("blocking breaks a higher one", x.admit(30, 30, 1, 1), RateMonoKernel.ERR_UNSCHEDULABLE);
        Check.due("no blocking, no harm", x.admit(30, 30, 1, 0), 1);
    }

    private static void refusalKeepsTheSet() {
        RateMonoKernel x = new RateMonoKernel(4, 8);
        x.admit(20, 10, 3, 2);
        x.admit(40, 40, 5, 4);
        x.setOffset(1, 9);
        x.setDemand(1, 8);
        // The first would have new terms and bounds of both tasks; the lowest one alone is in the way.
        Check.changesNothing("a refused admit", x, k ->
            Check.due("admit(50, 6, 6, 3)", k.admit(50, 6, 6, 3), RateMonoKernel.ERR_UNSCHEDULABLE));
        Check.changesNothing("a refused admit", x, k ->
            Check.due("admit(10, 10, 9, 0)", k.admit(10, 10, 9, 0), RateMonoKernel.ERR_UNSCHEDULABLE));
        Check.changesNothing("a refused admit", x, k ->
            Check.due("admit(50, 50, 1, 9)", k.admit(50, 50, 1, 9), RateMonoKernel.ERR_UNSCHEDULABLE));
        Check.due("the same slot is still free", x.admit(80, 80, 1, 0), 2);
        Check.dueTask(x, 2, 80, 80, 1, 0, 0, 1, 9, 0);
    }

    private static void freedSlotStartsAnew() {
        RateMonoKernel x = new RateMonoKernel(1, 8);
        x.admit(20, 10, 3, 2);
        x.setOffset(0, 200);
        x.setDemand(0, 900);
        x.remove(0);
        Check.due("admit(9, 8, 7, 6)", x.admit(9, 8, 7, 6), 0);
        Check.dueTask(x, 0, 9, 8, 7, 6, 0, 7, 7, 0, 0, 0, 0, 0, 0, 0, 0);
    }
}
