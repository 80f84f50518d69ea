import java.util.function.Supplier;

/** Promise 4: setOffset. */
public final class SetOffsetTest {
    public static void main(String[] args) {
        whenRunning();
        slotOutOfRange();
        slotNotInUse();
        offsetOutOfRange();
        edgesOfTheRange();
        firstRelease();
        laterCallCounts();
        nothingElseChanges();
        laterAnalysisDoesNotSeeThem();
        Check.end();
    }

    private static void refused(Supplier<RateMonoKernel> maker, int slot, int offset) {
        Check.refused("setOffset(" + slot + ", " + offset + ")", maker, x -> x.setOffset(slot, offset));
    }

    private static void whenRunning() {
        Check.sentence(4, "It is refused (answers `false`, changes nothing) if the phase is RUNNING");
        for (int ticks : new int[] {0, 1, 10, 100}) {
            for (int slot : new int[] {-1, 0, 1, 2, 3, 4}) {
                refused(() -> Sets.threeAt(ticks), slot, 1);
            }
        }
    }

    private static void slotOutOfRange() {
        Check.sentence(4, "or `slot` is not in [0, maxTasks-1]");
        for (int slot : Check.outside(0, 2)) {
            refused(() -> Sets.full(3), slot, 1);
        }
        for (int slot : Check.outside(0, 0)) {
            refused(() -> Sets.full(1), slot, 1);
        }
    }

    private static void slotNotInUse() {
        Check.sentence(4, "or the slot is not in use");
        refused(Sets::three, 3, 1);
        refused(() -> new RateMonoKernel(8, 8), 0, 1);
        refused(() -> new RateMonoKernel(8, 8), 7, 1);
        refused(() -> {
            RateMonoKernel x = Sets.three();
            x.remove(1);
            return x;
        }, 1, 1);
    }

    private static void offsetOutOfRange() {
        Check.sentence(4, "or `offset` is not in [0, 255]");
        for (int offset : Check.outside(0, 255)) {
            refused(Sets::three, 0, offset);
            refused(Sets::three, 2, offset);
        }
    }

    private static void edgesOfTheRange() {
        Check.sentence(4, "Otherwise it sets O to `offset` and answers `true`.");
        RateMonoKernel x = Sets.full(8);
        for (int slot : new int[] {0, 3, 7}) {
            for (int offset : new int[] {255, 254, 0, 1, 128}) {
                Check.due("setOffset(" + slot + ", " + offset + ")", x.setOffset(slot, offset), true);
                Check.dueField(x, slot, RateMonoKernel.F_OFFSET, offset);
            }
        }
    }

    private static void firstRelease() {
        Check.sentence(4, "sets the offset O of the task in `slot`, the time of its first release");
        for (int offset : new int[] {0, 1, 2, 3, 4, 6, 254, 255}) {
            RateMonoKernel x = Check.with(1, 8, new int[][] {{3, 3, 1, 0}});
            x.setOffset(0, offset);
            x.start();
            x.run(offset);
            Check.dueField(x, 0, RateMonoKernel.F_RELEASED, 0);
            Check.due("getIdleTicks()", x.getIdleTicks(), offset);
            x.run(1);
            Check.dueField(x, 0, RateMonoKernel.F_RELEASED, 1);
            Check.due("getRunning()", x.getRunning(), 0);
            x.run(2);
            Check.dueField(x, 0, RateMonoKernel.F_RELEASED, 1);
            x.run(1);
            Check.dueField(x, 0, RateMonoKernel.F_RELEASED, 2);
        }
    }

    private static void laterCallCounts() {
        Check.sentence(4, "Otherwise it sets O to `offset`", "a second time");
        RateMonoKernel x = Check.with(1, 8, new int[][] {{100, 100, 1, 0}});
        x.setOffset(0, 255);
        x.setOffset(0, 7);
        Check.due("setOffset(0, 256)", x.setOffset(0, 256), false);
        x.start();
        x.run(8);
        Check.dueField(x, 0, RateMonoKernel.F_RELEASED, 1);
        Check.due("getIdleTicks()", x.getIdleTicks(), 7);
    }

    private static void nothingElseChanges() {
        Check.sentence(4, "Nothing else changes; in particular bounds and blocking terms are not affected by offsets.");
        for (int offset : new int[] {0, 1, 255}) {
            RateMonoKernel x = Sets.three();
            Check.due("setOffset(1, " + offset + ")", x.setOffset(1, offset), true);
            Check.dueTask(x, 0, 10, 10, 2, 1, 0, 2, 5, 3, 0, 0, 0, 0, 0, 0, 0);
            Check.dueTask(x, 1, 20, 20, 3, 2, offset, 3, 8, 3, 0, 0, 0, 0, 0, 0, 0);
            Check.dueTask(x, 2, 40, 40, 4, 3, 8, 77, 9, 0, 0, 0, 0, 0, 0, 0, 0);
            x.setOffset(1, 0);
            Check.dueText("the state with the old offset", Check.picture(x), Check.picture(Sets.three()));
        }
    }

    private static void laterAnalysisDoesNotSeeThem() {
        Check.sentence(4, "bounds and blocking terms are not affected by offsets", "of a later set");
        RateMonoKernel x = Sets.three();
        for (int slot = 0; slot < 3; slot++) {
            x.setOffset(slot, 100 + slot);
        }
        Check.due("admit(80, 80, 5, 4)", x.admit(80, 80, 5, 4), 3);
        Check.dueTask(x, 0, 10, 10, 2, 1, 100, 2, 6, 4);
        Check.dueTask(x, 1, 20, 20, 3, 2, 101, 3, 9, 4);
        // 4 + 4 + 3 + 2 * 2.
        Check.dueTask(x, 2, 40, 40, 4, 3, 102, 77, 15, 4);
        Check.dueTask(x, 3, 80, 80, 5, 4, 0, 5, 16, 0);
        x.remove(3);
        Check.dueTask(x, 0, 10, 10, 2, 1, 100, 2, 5, 3);
        // The offset keeps these two apart for good, and still there is no room.
        RateMonoKernel y = Check.with(2, 8, new int[][] {{10, 5, 5, 0}});
        y.setOffset(0, 5);
        Check.due("admit(10, 5, 5, 0)", y.admit(10, 5, 5, 0), RateMonoKernel.ERR_UNSCHEDULABLE);
    }
}
