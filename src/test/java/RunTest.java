/** Promise 7, with promises 12, 13 and 14: run, getRunning, getIdleTicks, getPreemptions. */
public final class RunTest {
    public static void main(String[] args) {
        inSetup();
        tickCounts();
        trace();
        runsOfAnyLengthAgree();
        endedJobIsNotPreempted();
        idleTickBetween();
        overrunEdge();
        overrunMarkIsMadeAnew();
        worstAndLast();
        admittedSetNeverMisses();
        tiesRunBySlot();
        Check.end();
    }

    private static void inSetup() {
        RateMonoKernel x = new RateMonoKernel(2, 8);
        x.admit(10, 10, 1, 0);
        for (int ticks : new int[] {Integer.MIN_VALUE, -1, 0, 1, 1000, Integer.MAX_VALUE}) {
            Check.changesNothing("run(" + ticks + ") in SETUP", x, k -> Check.due("run(" + ticks + ")", k.run(ticks), -1));
        }
        Check.due("start()", x.start(), true);
        Check.due("run(0)", x.run(0), 0);
    }

    private static void tickCounts() {
        RateMonoKernel x = new RateMonoKernel(1, 8);
        x.admit(10, 10, 3, 0);
        x.start();
        for (int ticks : new int[] {0, -1, Integer.MIN_VALUE}) {
            Check.changesNothing("run(" + ticks + ")", x, k -> Check.due("run(" + ticks + ")", k.run(ticks), 0));
        }
        Check.due("run(2)", x.run(2), 2);
        Check.due("getTime()", x.getTime(), 2);
        Check.changesNothing("run(0)", x, k -> Check.due("run(0)", k.run(0), 2));
        Check.changesNothing("run(-7)", x, k -> Check.due("run(-7)", k.run(-7), 2));
        Check.due("run(999)", x.run(999), 1001);
        Check.due("run(1000)", x.run(1000), 2001);
        Check.due("run(1001)", x.run(1001), 3001);
        Check.due("run(MAX_VALUE)", x.run(Integer.MAX_VALUE), 4001);
        Check.due("getTime()", x.getTime(), 4001);
        Check.dueField(x, 0, RateMonoKernel.F_RELEASED, 401);
    }

    /** One tick a row: running slot, idle ticks, preemptions, remaining of 0 and 1, log count. */
    private static void trace() {
        RateMonoKernel x = new RateMonoKernel(2, 8);
        x.admit(12, 12, 5, 0);
        x.admit(4, 4, 2, 0);
        x.setOffset(1, 1);
        x.start();
        int[][] rows = {
            {0, 0, 0, 4, 0, 0},
            {1, 0, 1, 4, 1, 0},
            {1, 0, 1, 4, 0, 1},
            {0, 0, 1, 3, 0, 1},
            {0, 0, 1, 2, 0, 1},
            {1, 0, 2, 2, 1, 1},
            {1, 0, 2, 2, 0, 2},
            {0, 0, 2, 1, 0, 2},
            {0, 0, 2, 0, 0, 3},
            {1, 0, 2, 0, 1, 3},
            {1, 0, 2, 0, 0, 4},
            {-1, 1, 2, 0, 0, 4},
            {0, 1, 2, 4, 0, 4},
            {1, 1, 3, 4, 1, 4},
        };
        for (int t = 0; t < rows.length; t++) {
            Check.due("run(1)", x.run(1), t + 1);
            Check.due("getTime()", x.getTime(), t + 1);
            Check.due("tick " + t + ": getRunning()", x.getRunning(), rows[t][0]);
            Check.due("tick " + t + ": getIdleTicks()", x.getIdleTicks(), rows[t][1]);
            Check.due("tick " + t + ": getPreemptions()", x.getPreemptions(), rows[t][2]);
            Check.dueField(x, 0, RateMonoKernel.F_REMAINING, rows[t][3]);
            Check.dueField(x, 1, RateMonoKernel.F_REMAINING, rows[t][4]);
            Check.due("tick " + t + ": getLogCount()", x.getLogCount(), rows[t][5]);
        }
        Check.dueTask(x, 0, 12, 12, 5, 0, 0, 5, 11, 0, 2, 1, 0, 0, 9, 9, 4);
        Check.dueTask(x, 1, 4, 4, 2, 0, 1, 2, 2, 0, 4, 3, 0, 0, 2, 2, 1);
        Check.dueLog(x, 1024 + 2, 1024 + 2, 9, 1024 + 2);
    }

    private static RateMonoKernel busySet() {
        RateMonoKernel x = new RateMonoKernel(4, 12);
        x.admit(31, 31, 9, 0);
        x.admit(7, 7, 2, 0);
        x.admit(11, 11, 3, 0);
        x.setOffset(1, 3);
        x.setOffset(2, 1);
        x.setDemand(2, 9);
        x.start();
        return x;
    }

    private static void runsOfAnyLengthAgree() {
        RateMonoKernel one = busySet();
        one.run(900);
        for (int step : new int[] {1, 2, 3, 4, 5, 9, 100}) {
            RateMonoKernel many = busySet();
            for (int t = 0; t < 900; t += step) {
                many.run(step);
            }
            Check.dueText("900 ticks by " + step, Check.picture(many), Check.picture(one));
        }
    }

    private static void endedJobIsNotPreempted() {
        RateMonoKernel x = new RateMonoKernel(2, 8);
        x.admit(5, 5, 2, 0);
        x.admit(10, 10, 6, 0);
        x.start();
        x.run(10);
        Check.due("getPreemptions() at 10", x.getPreemptions(), 1);
        Check.due("getRunning() at 10", x.getRunning(), 1);
        // At 10 task 1 has a new job pending, but the job that ran in tick 9 has ended.
        x.run(1);
        Check.due("getPreemptions() at 11", x.getPreemptions(), 1);
        Check.due("getRunning() at 11", x.getRunning(), 0);
        Check.dueField(x, 1, RateMonoKernel.F_REMAINING, 6);
        Check.dueField(x, 1, RateMonoKernel.F_WORST, 10);
        Check.dueField(x, 1, RateMonoKernel.F_MISSES, 0);
        x.run(1000);
        // 1011 ticks: one preemption at 5 of every 10.
        Check.due("getPreemptions() at 1011", x.getPreemptions(), 101);
        Check.due("getIdleTicks()", x.getIdleTicks(), 0);
    }

    private static void idleTickBetween() {
        RateMonoKernel x = new RateMonoKernel(2, 8);
        x.admit(4, 4, 1, 0);
        x.admit(8, 8, 1, 0);
        x.setOffset(0, 2);
        x.start();
        x.run(1);
        Check.due("getRunning()", x.getRunning(), 1);
        x.run(1);
        Check.due("getRunning() after an idle tick", x.getRunning(), -1);
        x.run(1);
        Check.due("getRunning()", x.getRunning(), 0);
        x.run(997);
        Check.due("getPreemptions()", x.getPreemptions(), 0);
        Check.due("getIdleTicks()", x.getIdleTicks(), 1000 - 250 - 125);
    }

    private static void overrunEdge() {
        int[][] rows = {{1, 1, 0}, {2, 2, 0}, {3, 3, 0}, {4, 3, 1}, {1000, 3, 1}};
        for (int[] row : rows) {
            RateMonoKernel x = new RateMonoKernel(1, 8);
            x.admit(10, 10, 3, 0);
            x.setDemand(0, row[0]);
            x.start();
            x.run(1);
            Check.dueField(x, 0, RateMonoKernel.F_REMAINING, row[1] - 1);
            x.run(9);
            Check.dueTask(x, 0, 10, 10, 3, 0, 0, row[0], 3, 0, 1, 1, row[2], 0, row[1], row[1], 0);
            Check.dueLog(x, 512 * row[2] + row[1]);
            Check.due("getIdleTicks()", x.getIdleTicks(), 10 - row[1]);
        }
    }

    private static void overrunMarkIsMadeAnew() {
        RateMonoKernel x = new RateMonoKernel(1, 8);
        x.admit(5, 5, 2, 0);
        x.start();
        int[] demands = {9, 2, 1, 3, 2};
        for (int demand : demands) {
            x.setDemand(0, demand);
            x.run(5);
        }
        Check.dueLog(x, 512 + 2, 2, 1, 512 + 2, 2);
        Check.dueField(x, 0, RateMonoKernel.F_OVERRUNS, 2);
        Check.dueField(x, 0, RateMonoKernel.F_ENDED, 5);
    }

    private static void worstAndLast() {
        RateMonoKernel x = new RateMonoKernel(1, 8);
        x.admit(6, 6, 4, 0);
        x.start();
        int[][] rows = {{2, 2}, {4, 4}, {1, 4}, {3, 4}};
        for (int[] row : rows) {
            x.setDemand(0, row[0]);
            x.run(6);
            Check.dueField(x, 0, RateMonoKernel.F_LAST, row[0]);
            Check.dueField(x, 0, RateMonoKernel.F_WORST, row[1]);
        }
    }

    /** A bound within D for every task leaves no room for a late or dropped job. */
    private static void admittedSetNeverMisses() {
        RateMonoKernel x = new RateMonoKernel(3, 8);
        x.admit(2, 2, 1, 0);
        x.admit(4, 4, 1, 0);
        x.admit(8, 8, 2, 0);
        for (int slot = 0; slot < 3; slot++) {
            x.setDemand(slot, 1000);
        }
        x.start();
        x.run(1000);
        for (int slot = 0; slot < 3; slot++) {
            Check.dueField(x, slot, RateMonoKernel.F_MISSES, 0);
            Check.dueField(x, slot, RateMonoKernel.F_RELEASED, 500 >> slot);
            Check.dueField(x, slot, RateMonoKernel.F_ENDED, 500 >> slot);
            Check.dueField(x, slot, RateMonoKernel.F_OVERRUNS, 500 >> slot);
        }
        Check.dueField(x, 2, RateMonoKernel.F_WORST, 8);
        Check.due("getIdleTicks()", x.getIdleTicks(), 0);
    }

    private static void tiesRunBySlot() {
        RateMonoKernel x = new RateMonoKernel(3, 8);
        x.admit(9, 9, 2, 0);
        x.admit(9, 9, 2, 0);
        x.admit(9, 9, 2, 0);
        x.setOffset(0, 1);
        x.start();
        int[] order = {1, 0, 0, 1, 2, 2, -1, -1, -1, 1, 0};
        for (int slot : order) {
            x.run(1);
            Check.due("getRunning()", x.getRunning(), slot);
        }
        Check.due("getPreemptions()", x.getPreemptions(), 2);
    }
}
