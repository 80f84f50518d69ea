/** Promise 8: getTask. */
public final class GetTaskTest {
    public static void main(String[] args) {
        everyField();
        slotOutOfRange();
        slotNotInUse();
        fieldOutOfRange();
        lastRecomputed();
        demandAfterAdmission();
        countsInSetup();
        worstAndLastBeforeAnEnd();
        remainingWithoutAJob();
        changesNothing();
        Check.end();
    }

    private static RateMonoKernel two() {
        RateMonoKernel x = Check.with(3, 8, new int[][] {{200, 150, 60, 7}, {10, 9, 2, 5}});
        x.setOffset(1, 3);
        x.setDemand(1, 8);
        return x;
    }

    private static RateMonoKernel ran(int ticks) {
        RateMonoKernel x = two();
        x.start();
        x.run(ticks);
        return x;
    }

    private static void everyField() {
        Check.sentence(8, "answers the value of field `f` of the task in `slot`");
        // Task 1 runs in ticks 3, 4, 13, 14, 23 and 24; task 0 in the other 19.
        Check.dueTask(ran(25), 0, 200, 150, 60, 7, 0, 60, 76, 0, 1, 0, 0, 0, 0, 0, 41);
        Check.dueTask(ran(25), 1, 10, 9, 2, 5, 3, 8, 9, 7, 3, 3, 3, 0, 2, 2, 0);
    }

    private static void slotOutOfRange() {
        Check.sentence(8, "The answer is -1 if `slot` is not in [0, maxTasks-1]");
        for (int maxTasks = 1; maxTasks <= 8; maxTasks++) {
            RateMonoKernel x = Sets.full(maxTasks);
            for (int phase = 0; phase < 2; phase++) {
                for (int slot : Check.outside(0, maxTasks - 1)) {
                    Check.dueNoTask(x, slot);
                }
                Check.dueField(x, 0, RateMonoKernel.F_PERIOD, 100);
                Check.dueField(x, maxTasks - 1, RateMonoKernel.F_PERIOD, 100);
                x.start();
            }
        }
    }

    private static void slotNotInUse() {
        Check.sentence(8, "or the slot is not in use");
        Check.dueNoTask(new RateMonoKernel(8, 8), 0);
        Check.dueNoTask(new RateMonoKernel(8, 8), 7);
        Check.dueNoTask(two(), 2);
        Check.dueNoTask(ran(25), 2);
        RateMonoKernel x = two();
        x.remove(1);
        Check.dueNoTask(x, 1);
        x.start();
        x.run(25);
        Check.dueNoTask(x, 1);
        RateMonoKernel y = two();
        y.admit(255, 1, 1, 0);
        Check.dueNoTask(y, 2);
    }

    private static void fieldOutOfRange() {
        Check.sentence(8, "or `f` is not in [0, 14]");
        for (int f : Check.outside(0, 14)) {
            Check.dueField(two(), 0, f, -1);
            Check.dueField(ran(25), 1, f, -1);
            Check.dueField(ran(25), 2, f, -1);
            Check.dueField(ran(25), 3, f, -1);
        }
    }

    private static void lastRecomputed() {
        Check.sentence(8, "`F_BOUND` and `F_BLOCK_TERM` give R_i and B_i for the current set of tasks in use");
        RateMonoKernel x = Check.with(2, 8, new int[][] {{20, 20, 2, 0}});
        Check.dueTask(x, 0, 20, 20, 2, 0, 0, 2, 2, 0);
        x.admit(40, 40, 3, 9);
        Check.dueTask(x, 0, 20, 20, 2, 0, 0, 2, 11, 9);
        Check.dueTask(x, 1, 40, 40, 3, 9, 0, 3, 5, 0);
        x.remove(1);
        Check.dueTask(x, 0, 20, 20, 2, 0, 0, 2, 2, 0);
        x.admit(10, 10, 1, 9);
        Check.dueTask(x, 0, 20, 20, 2, 0, 0, 2, 3, 0);
    }

    private static void demandAfterAdmission() {
        Check.sentence(8, "`F_DEMAND` gives the current demand (C right after admission).");
        for (int cost : new int[] {1, 2, 254, 255}) {
            RateMonoKernel x = Check.with(1, 8, new int[][] {{255, 255, cost, 0}});
            Check.dueField(x, 0, RateMonoKernel.F_DEMAND, cost);
            x.setDemand(0, 1000);
            Check.dueField(x, 0, RateMonoKernel.F_DEMAND, 1000);
            Check.dueField(x, 0, RateMonoKernel.F_COST, cost);
            x.setDemand(0, 1);
            Check.dueField(x, 0, RateMonoKernel.F_DEMAND, 1);
        }
    }

    private static void countsInSetup() {
        Check.sentence(8, "are 0 in SETUP");
        RateMonoKernel x = two();
        x.run(100);
        for (int slot = 0; slot < 2; slot++) {
            for (int f = RateMonoKernel.F_RELEASED; f <= RateMonoKernel.F_REMAINING; f++) {
                Check.dueField(x, slot, f, 0);
            }
        }
    }

    private static void worstAndLastBeforeAnEnd() {
        Check.sentence(8, "`F_WORST` is 0 if no job of the task has ended, `F_LAST` is 0 if none has ended");
        RateMonoKernel x = Sets.one(10, 3);
        for (int t = 0; t < 3; t++) {
            Check.dueField(x, 0, RateMonoKernel.F_WORST, 0);
            Check.dueField(x, 0, RateMonoKernel.F_LAST, 0);
            x.run(1);
        }
        Check.dueField(x, 0, RateMonoKernel.F_WORST, 3);
        Check.dueField(x, 0, RateMonoKernel.F_LAST, 3);
    }

    private static void remainingWithoutAJob() {
        Check.sentence(8, "`F_REMAINING` is 0 if the task has no pending job");
        RateMonoKernel x = Check.with(1, 8, new int[][] {{10, 10, 2, 0}});
        x.setOffset(0, 3);
        x.start();
        int[] due = {0, 0, 0, 1, 0, 0, 0, 0, 0, 0, 0, 0, 0, 1, 0};
        for (int left : due) {
            x.run(1);
            Check.dueField(x, 0, RateMonoKernel.F_REMAINING, left);
        }
    }

    private static void changesNothing() {
        Check.sentence(8, "This call changes nothing.");
        for (int slot : new int[] {Integer.MIN_VALUE, -1, 0, 1, 2, 3, Integer.MAX_VALUE}) {
            for (int f = -1; f <= 15; f++) {
                int asked = f;
                String call = "getTask(" + slot + ", " + f + ")";
                Check.noTrace(call, GetTaskTest::two, x -> x.getTask(slot, asked), two().getTask(slot, f));
                // The next tick preempts task 0.
                Check.noTrace(call, () -> ran(23), x -> x.getTask(slot, asked), ran(23).getTask(slot, f));
            }
        }
    }
}
