/**
 * Promise 7: run. Late and dropped jobs, and the counts past the greatest int, have
 * their tests in OutOfReachTest; time past the greatest int has its own in WrapTest.
 */
public final class RunTest {
    public static void main(String[] args) {
        inSetup();
        ticksBelowZero();
        ticksAboveThousand();
        ticksInBetween();
        zeroTicks();
        oneAfterTheOther();
        noReleaseBeforeTheOffset();
        releaseEveryPeriod();
        jobEndsAtTheNextRelease();
        remainingIsTheSmaller();
        markedOnlyAboveTheBudget();
        markIsMadeAnew();
        highestPriorityIsPicked();
        tiesRunBySlot();
        idleTick();
        preemption();
        sameJobIsNotPreempted();
        endedJobIsNotPreempted();
        previousTickInAnEarlierRun();
        firstTickAfterStart();
        afterAnIdleTick();
        execution();
        responseOfOneTick();
        responseCountsTheWait();
        overrunIsCountedAtTheEnd();
        endOnTheDeadline();
        lastAndWorst();
        logIsFull();
        endedJobIsNoLongerPending();
        atMostOnePendingJob();
        tasksAreNotChanged();
        trace();
        admittedSetNeverMisses();
        Check.end();
    }

    private static void dueCounts(RateMonoKernel x, int running, int idle, int preemptions) {
        String at = "at " + x.getTime() + ": ";
        Check.due(at + "getRunning()", x.getRunning(), running);
        Check.due(at + "getIdleTicks()", x.getIdleTicks(), idle);
        Check.due(at + "getPreemptions()", x.getPreemptions(), preemptions);
    }

    /** One tick for each slot that is due to run in it. */
    private static void dueOrder(RateMonoKernel x, int... order) {
        for (int slot : order) {
            x.run(1);
            Check.due("at " + x.getTime() + ": getRunning()", x.getRunning(), slot);
        }
    }

    private static void inSetup() {
        Check.sentence(7, "If the phase is SETUP, the answer is -1 and nothing changes.");
        for (int ticks : new int[] {Integer.MIN_VALUE, -1, 0, 1, 1000, 1001, Integer.MAX_VALUE}) {
            Check.noTrace("run(" + ticks + ")", Sets::three, x -> x.run(ticks), -1);
            Check.noTrace("run(" + ticks + ")", () -> new RateMonoKernel(1, 8), x -> x.run(ticks), -1);
        }
    }

    private static void ticksBelowZero() {
        Check.sentence(7, "a value below 0 becomes 0");
        for (int ticks : new int[] {-1, -2, -255, -1000, -65535, Integer.MIN_VALUE + 1, Integer.MIN_VALUE}) {
            for (int at : new int[] {0, 1, 3, 9, 10}) {
                Check.noTrace("run(" + ticks + ")", () -> Sets.threeAt(at), x -> x.run(ticks), at);
            }
        }
    }

    private static void ticksAboveThousand() {
        Check.sentence(7, "a value above 1000 becomes 1000");
        for (int ticks : new int[] {1001, 1024, 65537, Integer.MAX_VALUE - 1, Integer.MAX_VALUE}) {
            RateMonoKernel x = Sets.one(10, 3);
            Check.due("run(" + ticks + ")", x.run(ticks), 1000);
            Check.due("getTime()", x.getTime(), 1000);
            Check.dueField(x, 0, RateMonoKernel.F_RELEASED, 100);
            Check.due("run(" + ticks + ")", x.run(ticks), 2000);
        }
    }

    private static void ticksInBetween() {
        Check.sentence(7, "The kernel runs n ticks, one after the other, and answers the time after them.");
        for (int ticks : new int[] {1, 2, 255, 256, 999, 1000}) {
            RateMonoKernel x = Sets.one(1, 1);
            Check.due("run(" + ticks + ")", x.run(ticks), ticks);
            Check.due("getTime()", x.getTime(), ticks);
            Check.dueField(x, 0, RateMonoKernel.F_RELEASED, ticks);
        }
    }

    private static void zeroTicks() {
        Check.sentence(7, "With n = 0 nothing changes and the answer is the current time.");
        // Before the first tick, amid a job, after its end, after idle ticks, before a preemption, long after.
        for (int at : new int[] {0, 1, 2, 4, 5, 6, 8, 9, 10, 30, 1000}) {
            Check.noTrace("run(0)", () -> Sets.threeAt(at), x -> x.run(0), at);
        }
    }

    private static RateMonoKernel busySet() {
        RateMonoKernel x = Check.with(4, 12, new int[][] {{31, 31, 9, 0}, {7, 7, 2, 0}, {11, 11, 3, 0}});
        x.setOffset(1, 3);
        x.setOffset(2, 1);
        x.setDemand(2, 9);
        x.start();
        return x;
    }

    private static void oneAfterTheOther() {
        Check.sentence(7, "one after the other");
        RateMonoKernel one = busySet();
        one.run(900);
        for (int step : new int[] {1, 2, 3, 4, 5, 9, 100}) {
            RateMonoKernel many = busySet();
            for (int t = 0; t < 900; t += step) {
                many.run(step);
            }
            Check.dueText("900 ticks by " + step, Check.picture(many), Check.picture(one));
        }
    }

    private static void noReleaseBeforeTheOffset() {
        Check.sentence(7, "Task i releases a job if t >= O_i");
        // A whole number of periods before O, the other half of the condition holds.
        for (int offset : new int[] {4, 8, 252}) {
            RateMonoKernel x = Check.with(1, 8, new int[][] {{4, 4, 1, 0}});
            x.setOffset(0, offset);
            x.start();
            x.run(offset);
            Check.dueField(x, 0, RateMonoKernel.F_RELEASED, 0);
            dueCounts(x, -1, offset, 0);
            x.run(1);
            Check.dueField(x, 0, RateMonoKernel.F_RELEASED, 1);
            dueCounts(x, 0, offset, 0);
        }
    }

    private static void releaseEveryPeriod() {
        Check.sentence(7, "and (t - O_i) % T_i == 0");
        for (int period : new int[] {1, 2, 3, 254, 255}) {
            for (int offset : new int[] {0, 1, 7, 255}) {
                RateMonoKernel x = Check.with(1, 8, new int[][] {{period, period, 1, 0}});
                x.setOffset(0, offset);
                x.start();
                int released = 0;
                for (int t = 0; t < 800; t++) {
                    if (t == offset + released * period) {
                        released++;
                    }
                    x.run(1);
                    Check.dueField(x, 0, RateMonoKernel.F_RELEASED, released);
                }
            }
        }
    }

    private static void jobEndsAtTheNextRelease() {
        Check.sentence(7, "If task i still has a pending job, that job is dropped", "and it has none if the job just ended");
        for (int period : new int[] {1, 2, 4, 255}) {
            RateMonoKernel x = Sets.one(period, period);
            x.run(3 * period);
            x.run(1);
            Check.dueField(x, 0, RateMonoKernel.F_RELEASED, 4);
            Check.dueField(x, 0, RateMonoKernel.F_ENDED, period == 1 ? 4 : 3);
            Check.dueField(x, 0, RateMonoKernel.F_MISSES, 0);
        }
    }

    private static void remainingIsTheSmaller() {
        Check.sentence(7, "remaining = min(demand_i, C_i)");
        int[][] rows = {{1, 1}, {2, 2}, {3, 3}, {4, 3}, {1000, 3}};
        for (int[] row : rows) {
            RateMonoKernel x = Check.with(2, 8, new int[][] {{10, 10, 3, 0}, {9, 9, 1, 0}});
            x.setDemand(0, row[0]);
            x.start();
            // The other task has the first tick, so the job shows what it got.
            x.run(1);
            Check.dueField(x, 0, RateMonoKernel.F_REMAINING, row[1]);
            x.run(row[1]);
            Check.dueField(x, 0, RateMonoKernel.F_REMAINING, 0);
            Check.dueField(x, 0, RateMonoKernel.F_ENDED, 1);
        }
    }

    private static void markedOnlyAboveTheBudget() {
        Check.sentence(7, "it is marked OVERRUN exactly when demand_i > C_i");
        int[][] rows = {{1, 0}, {2, 0}, {3, 0}, {4, 1}, {5, 1}, {1000, 1}};
        for (int[] row : rows) {
            RateMonoKernel x = Check.with(1, 8, new int[][] {{10, 10, 3, 0}});
            x.setDemand(0, row[0]);
            x.start();
            x.run(10);
            Check.dueField(x, 0, RateMonoKernel.F_OVERRUNS, row[1]);
            Check.dueLog(x, 512 * row[1] + Math.min(row[0], 3));
        }
    }

    private static void markIsMadeAnew() {
        Check.sentence(7, "(otherwise it is not marked, whatever the task's earlier jobs were)");
        RateMonoKernel x = Sets.one(5, 2);
        for (int demand : new int[] {9, 2, 1, 3, 2}) {
            x.setDemand(0, demand);
            x.run(5);
        }
        Check.dueLog(x, 512 + 2, 2, 1, 512 + 2, 2);
        Check.dueField(x, 0, RateMonoKernel.F_OVERRUNS, 2);
        Check.dueField(x, 0, RateMonoKernel.F_ENDED, 5);
    }

    private static void highestPriorityIsPicked() {
        Check.sentence(7, "the pending job whose task has the highest priority is picked");
        RateMonoKernel x = Check.with(8, 8, new int[][] {
            {107, 107, 1, 0}, {106, 106, 1, 0}, {105, 105, 1, 0}, {104, 104, 1, 0},
            {103, 103, 1, 0}, {102, 102, 1, 0}, {101, 101, 1, 0}, {100, 100, 1, 0},
        });
        x.start();
        dueOrder(x, 7, 6, 5, 4, 3, 2, 1, 0, -1);
    }

    private static void tiesRunBySlot() {
        Check.sentence(7, "the pending job whose task has the highest priority is picked", "equal periods");
        RateMonoKernel x = Check.with(3, 8, new int[][] {{9, 9, 2, 0}, {9, 9, 2, 0}, {9, 9, 2, 0}});
        x.setOffset(0, 1);
        x.start();
        dueOrder(x, 1, 0, 0, 1, 2, 2, -1, -1, -1, 1, 0);
        Check.due("getPreemptions()", x.getPreemptions(), 2);
    }

    private static void idleTick() {
        Check.sentence(7, "If none is pending, the tick is idle: the idle count increases by 1, the running task becomes -1");
        RateMonoKernel x = Sets.one(6, 2);
        x.run(2);
        Check.dueTask(x, 0, 6, 6, 2, 0, 0, 2, 2, 0, 1, 1, 0, 0, 2, 2, 0);
        for (int idle = 1; idle <= 4; idle++) {
            Check.due("run(1)", x.run(1), 2 + idle);
            dueCounts(x, -1, idle, 0);
            Check.dueTask(x, 0, 6, 6, 2, 0, 0, 2, 2, 0, 1, 1, 0, 0, 2, 2, 0);
            Check.dueLog(x, 2);
        }
        x.run(1);
        dueCounts(x, 0, 4, 0);
    }

    private static void preemption() {
        Check.sentence(7, "if the job that executed in the previous tick is still pending and is not the picked job");
        RateMonoKernel x = Check.with(2, 8, new int[][] {{20, 20, 4, 0}, {10, 10, 1, 0}});
        x.setOffset(1, 2);
        x.start();
        x.run(2);
        dueCounts(x, 0, 0, 0);
        x.run(1);
        dueCounts(x, 1, 0, 1);
        // The preempted job goes on: that is no preemption of the one that ended.
        x.run(1);
        dueCounts(x, 0, 0, 1);
        // Three levels: each higher one preempts the one before it.
        RateMonoKernel y = Check.with(3, 8, new int[][] {{40, 40, 3, 0}, {30, 30, 3, 0}, {20, 20, 3, 0}});
        y.setOffset(1, 1);
        y.setOffset(2, 2);
        y.start();
        dueOrder(y, 0, 1, 2, 2, 2, 1, 1, 0, 0, -1);
        dueCounts(y, -1, 1, 2);
    }

    private static void sameJobIsNotPreempted() {
        Check.sentence(7, "and is not the picked job");
        RateMonoKernel x = Check.with(2, 8, new int[][] {{10, 10, 4, 0}, {20, 20, 4, 0}});
        x.setOffset(1, 1);
        x.start();
        // A lower task's release takes nothing from the one that runs.
        dueOrder(x, 0, 0, 0, 0, 1, 1, 1, 1, -1);
        dueCounts(x, -1, 1, 0);
    }

    private static void endedJobIsNotPreempted() {
        Check.sentence(7, "is still pending");
        RateMonoKernel x = Check.with(2, 8, new int[][] {{5, 5, 2, 0}, {10, 10, 6, 0}});
        x.start();
        x.run(10);
        dueCounts(x, 1, 0, 1);
        // At 10 task 1 has a new job pending, but the job that ran in tick 9 has ended.
        x.run(1);
        dueCounts(x, 0, 0, 1);
        Check.dueField(x, 1, RateMonoKernel.F_REMAINING, 6);
        x.run(1000);
        // 1011 ticks: one preemption at 5 of every 10.
        dueCounts(x, 0, 0, 101);
    }

    private static void previousTickInAnEarlierRun() {
        Check.sentence(7, "The previous tick may belong to an earlier `run` call");
        RateMonoKernel x = Check.with(2, 8, new int[][] {{20, 20, 4, 0}, {10, 10, 1, 0}});
        x.setOffset(1, 2);
        x.start();
        x.run(2);
        // Calls between the ticks do not make it forgotten.
        x.run(0);
        x.run(-1);
        x.setDemand(0, 1);
        x.start();
        x.remove(0);
        x.run(1);
        dueCounts(x, 1, 0, 1);
    }

    private static void firstTickAfterStart() {
        Check.sentence(7, "in the first tick after `start()`, or after an idle tick, there is no such job");
        for (int shorter = 0; shorter < 2; shorter++) {
            RateMonoKernel x = Check.with(2, 8, new int[][] {
                {shorter == 0 ? 10 : 20, 10, 2, 0}, {shorter == 1 ? 10 : 20, 10, 2, 0},
            });
            x.start();
            x.run(1);
            dueCounts(x, shorter, 0, 0);
            x.run(3);
            dueCounts(x, 1 - shorter, 0, 0);
        }
    }

    private static void afterAnIdleTick() {
        Check.sentence(7, "or after an idle tick, there is no such job");
        RateMonoKernel x = Check.with(2, 8, new int[][] {{4, 4, 1, 0}, {8, 8, 1, 0}});
        x.setOffset(0, 2);
        x.start();
        dueOrder(x, 1, -1, 0, -1, -1, -1, 0, -1, 1, -1, 0);
        x.run(989);
        dueCounts(x, -1, 1000 - 250 - 125, 0);
    }

    private static void execution() {
        Check.sentence(7, "the picked job's remaining decreases by 1, and the running task becomes its slot");
        RateMonoKernel x = Check.with(8, 8, new int[][] {
            {99, 99, 1, 0}, {99, 99, 1, 0}, {99, 99, 1, 0}, {99, 99, 1, 0},
            {99, 99, 1, 0}, {99, 99, 1, 0}, {99, 99, 1, 0}, {98, 98, 5, 0},
        });
        x.start();
        for (int left = 4; left >= 0; left--) {
            x.run(1);
            dueCounts(x, 7, 0, 0);
            Check.dueField(x, 7, RateMonoKernel.F_REMAINING, left);
            for (int slot = 0; slot < 7; slot++) {
                Check.dueField(x, slot, RateMonoKernel.F_REMAINING, 1);
            }
        }
        dueOrder(x, 0, 1, 2, 3, 4, 5, 6, -1);
    }

    private static void responseOfOneTick() {
        Check.sentence(7, "A job released at time t may therefore execute in the same tick.");
        RateMonoKernel x = Sets.one(10, 1);
        x.run(1);
        Check.dueTask(x, 0, 10, 10, 1, 0, 0, 1, 1, 0, 1, 1, 0, 0, 1, 1, 0);
        Check.dueLog(x, 1);
        RateMonoKernel y = Check.with(1, 8, new int[][] {{10, 10, 1, 0}});
        y.setOffset(0, 255);
        y.start();
        y.run(256);
        Check.dueLog(y, 1);
    }

    private static void responseCountsTheWait() {
        Check.sentence(7, "it **ends** with response r = (t+1) - its release time");
        RateMonoKernel x = Check.with(2, 8, new int[][] {{20, 20, 3, 0}, {10, 10, 4, 0}});
        x.setOffset(0, 13);
        x.start();
        // Released at 13, while task 1 runs in ticks 10 to 13; it runs in 14, 15 and 16.
        x.run(16);
        Check.dueField(x, 0, RateMonoKernel.F_LAST, 0);
        x.run(1);
        Check.dueField(x, 0, RateMonoKernel.F_LAST, 4);
        Check.dueLog(x, 1024 + 4, 1024 + 4, 4);
    }

    private static void overrunIsCountedAtTheEnd() {
        Check.sentence(7, "if it is marked OVERRUN then overruns_i increases by 1 (it was stopped by the budget)");
        RateMonoKernel x = Check.with(1, 8, new int[][] {{10, 10, 3, 0}});
        x.setDemand(0, 4);
        x.start();
        x.run(2);
        Check.dueField(x, 0, RateMonoKernel.F_OVERRUNS, 0);
        x.run(1);
        Check.dueTask(x, 0, 10, 10, 3, 0, 0, 4, 3, 0, 1, 1, 1, 0, 3, 3, 0);
        x.run(1);
        dueCounts(x, -1, 1, 0);
    }

    private static void endOnTheDeadline() {
        Check.sentence(7, "if r > D_i then misses_i increases by 1", "and not if r == D_i");
        RateMonoKernel x = Check.with(2, 8, new int[][] {{20, 10, 6, 0}, {5, 2, 2, 0}});
        x.start();
        x.run(20);
        // Task 0 has ticks 2 to 4 and 7 to 9.
        Check.dueTask(x, 0, 20, 10, 6, 0, 0, 6, 10, 0, 1, 1, 0, 0, 10, 10, 0);
        Check.dueTask(x, 1, 5, 2, 2, 0, 0, 2, 2, 0, 4, 4, 0, 0, 2, 2, 0);
        RateMonoKernel y = Check.with(1, 8, new int[][] {{255, 1, 1, 0}});
        y.start();
        y.run(1000);
        Check.dueField(y, 0, RateMonoKernel.F_MISSES, 0);
    }

    private static void lastAndWorst() {
        Check.sentence(7, "last_i becomes r; worst_i becomes max(worst_i, r)");
        RateMonoKernel x = Sets.one(6, 4);
        int[][] rows = {{2, 2}, {4, 4}, {1, 4}, {3, 4}, {4, 4}};
        for (int[] row : rows) {
            x.setDemand(0, row[0]);
            x.run(6);
            Check.dueField(x, 0, RateMonoKernel.F_LAST, row[0]);
            Check.dueField(x, 0, RateMonoKernel.F_WORST, row[1]);
        }
    }

    private static void logIsFull() {
        Check.sentence(7, "If the log already holds logCap entries, the oldest is discarded first.");
        RateMonoKernel x = Sets.one(12, 12);
        for (int demand = 1; demand <= 8; demand++) {
            x.setDemand(0, demand);
            x.run(12);
        }
        Check.dueLog(x, 1, 2, 3, 4, 5, 6, 7, 8);
        x.setDemand(0, 9);
        x.run(12);
        Check.dueLog(x, 2, 3, 4, 5, 6, 7, 8, 9);
    }

    private static void endedJobIsNoLongerPending() {
        Check.sentence(7, "The job is then no longer pending.");
        RateMonoKernel x = Check.with(2, 8, new int[][] {{10, 10, 2, 0}, {20, 20, 2, 0}});
        x.start();
        x.run(2);
        Check.dueField(x, 0, RateMonoKernel.F_REMAINING, 0);
        dueOrder(x, 1, 1, -1, -1, -1, -1, -1, -1, 0);
        Check.dueField(x, 0, RateMonoKernel.F_ENDED, 1);
    }

    private static void atMostOnePendingJob() {
        Check.sentence(7, "Each task has at most one pending job at a time.");
        RateMonoKernel x = busySet();
        for (int t = 0; t < 1000; t++) {
            x.run(1);
            for (int slot = 0; slot < 3; slot++) {
                int open = x.getTask(slot, RateMonoKernel.F_RELEASED) - x.getTask(slot, RateMonoKernel.F_ENDED);
                int pending = x.getTask(slot, RateMonoKernel.F_REMAINING) > 0 ? 1 : 0;
                Check.due("jobs open in slot " + slot, open, pending);
            }
        }
    }

    private static void tasksAreNotChanged() {
        Check.sentence(7, "`run` changes no task's T, D, C, S, offset, demand, bound or blocking term.");
        RateMonoKernel x = Sets.threeAt(0);
        for (int ticks : new int[] {1, 1, 5, 993, 1000}) {
            x.run(ticks);
            Check.dueTask(x, 0, 10, 10, 2, 1, 0, 2, 5, 3);
            Check.dueTask(x, 1, 20, 20, 3, 2, 0, 3, 8, 3);
            Check.dueTask(x, 2, 40, 40, 4, 3, 8, 77, 9, 0);
            Check.dueNoTask(x, 3);
        }
    }

    /** One tick a row: running slot, idle ticks, preemptions, remaining of 0 and 1, log count. */
    private static void trace() {
        Check.sentence(7, "One tick at current time t does the following, in this order");
        RateMonoKernel x = Check.with(2, 8, new int[][] {{12, 12, 5, 0}, {4, 4, 2, 0}});
        x.setOffset(1, 1);
        x.start();
        int[][] rows = {
            {0, 0, 0, 4, 0, 0},
            {1, 0, 1, 4, 1, 0},
            {1, 0, 1, 4, 0, 1},
            {0, 0, 1, 3, 0, 1},
            {0, 0, 1, 2, 0, 1},
            {1, 0, 2, 2, 1, 1},
            {1, 0, 2, 2, 0, 2},
            {0, 0, 2, 1, 0, 2},
            {0, 0, 2, 0, 0, 3},
            {1, 0, 2, 0, 1, 3},
            {1, 0, 2, 0, 0, 4},
            {-1, 1, 2, 0, 0, 4},
            {0, 1, 2, 4, 0, 4},
            {1, 1, 3, 4, 1, 4},
        };
        for (int t = 0; t < rows.length; t++) {
            Check.due("run(1)", x.run(1), t + 1);
            Check.due("getTime()", x.getTime(), t + 1);
            dueCounts(x, rows[t][0], rows[t][1], rows[t][2]);
            Check.dueField(x, 0, RateMonoKernel.F_REMAINING, rows[t][3]);
            Check.dueField(x, 1, RateMonoKernel.F_REMAINING, rows[t][4]);
            Check.due("tick " + t + ": getLogCount()", x.getLogCount(), rows[t][5]);
        }
        Check.dueTask(x, 0, 12, 12, 5, 0, 0, 5, 11, 0, 2, 1, 0, 0, 9, 9, 4);
        Check.dueTask(x, 1, 4, 4, 2, 0, 1, 2, 2, 0, 4, 3, 0, 0, 2, 2, 1);
        Check.dueLog(x, 1024 + 2, 1024 + 2, 9, 1024 + 2);
    }

    /** A bound within D for every task leaves no room for a late or dropped job. */
    private static void admittedSetNeverMisses() {
        Check.sentence(7, "misses_i increases by 1", "never in an admitted set");
        RateMonoKernel x = Check.with(3, 8, new int[][] {{2, 2, 1, 0}, {4, 4, 1, 0}, {8, 8, 2, 0}});
        for (int slot = 0; slot < 3; slot++) {
            x.setDemand(slot, 1000);
        }
        x.start();
        x.run(1000);
        for (int slot = 0; slot < 3; slot++) {
            Check.dueField(x, slot, RateMonoKernel.F_MISSES, 0);
            Check.dueField(x, slot, RateMonoKernel.F_RELEASED, 500 >> slot);
            Check.dueField(x, slot, RateMonoKernel.F_ENDED, 500 >> slot);
            Check.dueField(x, slot, RateMonoKernel.F_OVERRUNS, 500 >> slot);
        }
        Check.dueField(x, 2, RateMonoKernel.F_WORST, 8);
        Check.due("getIdleTicks()", x.getIdleTicks(), 0);
    }
}
