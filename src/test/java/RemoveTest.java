import java.util.function.Supplier;

/** Promise 3: remove. */
public final class RemoveTest {
    public static void main(String[] args) {
        whenRunning();
        slotOutOfRange();
        slotNotInUse();
        firstAndLastSlot();
        freedTaskNeverRuns();
        remainingAreRecomputed();
        boundAlwaysExists();
        lastTaskGoes();
        freedSlotIsGivenAgain();
        othersKeepTheirValues();
        Check.end();
    }

    private static void refused(Supplier<RateMonoKernel> maker, int slot) {
        Check.refused("remove(" + slot + ")", maker, x -> x.remove(slot));
    }

    private static void whenRunning() {
        Check.sentence(3, "It is refused (answers `false`, changes nothing) if the kernel is RUNNING");
        for (int ticks : new int[] {0, 1, 10, 100}) {
            for (int slot : new int[] {-1, 0, 1, 2, 3, 4}) {
                refused(() -> Sets.threeAt(ticks), slot);
            }
        }
    }

    private static void slotOutOfRange() {
        Check.sentence(3, "or `slot` is not in [0, maxTasks-1]");
        for (int slot : Check.outside(0, 3)) {
            refused(() -> Sets.full(4), slot);
        }
        for (int slot : Check.outside(0, 0)) {
            refused(() -> Sets.full(1), slot);
        }
        for (int slot : Check.outside(0, 7)) {
            refused(() -> Sets.full(8), slot);
        }
    }

    private static void slotNotInUse() {
        Check.sentence(3, "or the slot is not in use");
        refused(Sets::three, 3);
        for (int slot = 0; slot < 8; slot++) {
            refused(() -> new RateMonoKernel(8, 8), slot);
        }
        RateMonoKernel x = Sets.three();
        Check.due("remove(1)", x.remove(1), true);
        Check.changesNothing("remove(1) again", x, k -> Check.due("remove(1) again", k.remove(1), false));
    }

    private static void firstAndLastSlot() {
        Check.sentence(3, "Otherwise the slot becomes free");
        RateMonoKernel x = Sets.full(8);
        Check.due("remove(0)", x.remove(0), true);
        Check.due("remove(7)", x.remove(7), true);
        Check.due("getTaskCount()", x.getTaskCount(), 6);
        Check.dueNoTask(x, 0);
        Check.dueNoTask(x, 7);
    }

    private static void freedTaskNeverRuns() {
        Check.sentence(3, "Otherwise the slot becomes free", "and has no jobs");
        RateMonoKernel x = Sets.three();
        x.remove(0);
        x.start();
        x.run(40);
        Check.due("getTaskCount()", x.getTaskCount(), 2);
        Check.dueNoTask(x, 0);
        // Task 1 has 3 ticks twice, task 2 has 4 ticks once.
        Check.due("getIdleTicks()", x.getIdleTicks(), 30);
        Check.dueLog(x, 1024 + 3, 2048 + 512 + 4, 1024 + 3);
    }

    private static void remainingAreRecomputed() {
        Check.sentence(3, "B_i and R_i of every remaining task are recomputed for the set of tasks still in use");
        int[][][] due = {
            {{-1, -1}, {3, 6}, {0, 7}},
            {{3, 5}, {-1, -1}, {0, 6}},
            {{2, 4}, {0, 5}, {-1, -1}},
        };
        for (int gone = 0; gone < 3; gone++) {
            RateMonoKernel x = Sets.three();
            x.remove(gone);
            for (int slot = 0; slot < 3; slot++) {
                Check.dueField(x, slot, RateMonoKernel.F_BLOCK_TERM, due[gone][slot][0]);
                Check.dueField(x, slot, RateMonoKernel.F_BOUND, due[gone][slot][1]);
            }
        }
    }

    private static void boundAlwaysExists() {
        Check.sentence(3, "(A bound always exists after a removal.)");
        // All of the time is taken: each bound is at its deadline.
        int[][] tasks = {{2, 2, 1, 1}, {4, 4, 1, 0}, {8, 8, 2, 0}};
        int[][] due = {{-1, 1, 3}, {1, -1, 4}, {1, 2, -1}};
        for (int gone = 0; gone < 3; gone++) {
            RateMonoKernel x = Check.with(3, 8, tasks);
            x.remove(gone);
            for (int slot = 0; slot < 3; slot++) {
                Check.dueField(x, slot, RateMonoKernel.F_BOUND, due[gone][slot]);
            }
        }
    }

    private static void lastTaskGoes() {
        Check.sentence(3, "The answer is `true`.", "the last task in use");
        RateMonoKernel x = Check.with(1, 8, new int[][] {{10, 10, 2, 1}});
        Check.due("remove(0)", x.remove(0), true);
        Check.dueText("the state after it", Check.picture(x), Check.picture(new RateMonoKernel(1, 8)));
    }

    private static void freedSlotIsGivenAgain() {
        Check.sentence(3, "The freed slot may later be given to a new task by `admit`.");
        RateMonoKernel x = Sets.three();
        x.remove(1);
        Check.due("admit(80, 80, 5, 0)", x.admit(80, 80, 5, 0), 1);
        // The new task is the lowest now: 5 + 2 * 2 + 4.
        Check.dueTask(x, 1, 80, 80, 5, 0, 0, 5, 13, 0, 0, 0, 0, 0, 0, 0, 0);

        RateMonoKernel y = Check.with(2, 8, new int[][] {{10, 10, 6, 0}});
        Check.due("no room", y.admit(10, 10, 5, 0), RateMonoKernel.ERR_UNSCHEDULABLE);
        y.remove(0);
        Check.due("room", y.admit(10, 10, 5, 0), 0);
    }

    private static void othersKeepTheirValues() {
        Check.sentence(3, "(their T, D, C, S, offset and demand stay as they were)");
        RateMonoKernel x = Sets.three();
        Check.dueTask(x, 0, 10, 10, 2, 1, 0, 2, 5, 3);
        Check.dueTask(x, 2, 40, 40, 4, 3, 8, 77, 9, 0);
        x.remove(1);
        Check.dueTask(x, 0, 10, 10, 2, 1, 0, 2, 5, 3, 0, 0, 0, 0, 0, 0, 0);
        Check.dueTask(x, 2, 40, 40, 4, 3, 8, 77, 6, 0, 0, 0, 0, 0, 0, 0, 0);
        Check.due("getTaskCount()", x.getTaskCount(), 2);
        Check.due("getTime()", x.getTime(), 0);
        Check.due("isStarted()", x.isStarted(), false);
    }
}
