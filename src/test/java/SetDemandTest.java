import java.util.function.Supplier;

/** Promise 5: setDemand. */
public final class SetDemandTest {
    public static void main(String[] args) {
        slotOutOfRange();
        slotNotInUse();
        demandOutOfRange();
        edgesInSetup();
        edgesWhenRunning();
        pendingJobKeepsRemaining();
        pendingJobKeepsItsMark();
        nextJobUsesIt();
        nothingElseChanges();
        Check.end();
    }

    private static void refused(Supplier<RateMonoKernel> maker, int slot, int demand) {
        Check.refused("setDemand(" + slot + ", " + demand + ")", maker, x -> x.setDemand(slot, demand));
    }

    private static void slotOutOfRange() {
        Check.sentence(5, "if `slot` is not in [0, maxTasks-1]");
        for (int slot : Check.outside(0, 2)) {
            refused(() -> Sets.full(3), slot, 2);
        }
        for (int slot : Check.outside(0, 3)) {
            refused(() -> Sets.threeAt(10), slot, 2);
        }
        for (int slot : Check.outside(0, 0)) {
            refused(() -> Sets.full(1), slot, 2);
        }
    }

    private static void slotNotInUse() {
        Check.sentence(5, "or the slot is not in use");
        refused(Sets::three, 3, 1);
        refused(() -> Sets.threeAt(10), 3, 1);
        refused(() -> new RateMonoKernel(8, 8), 0, 1);
        refused(() -> new RateMonoKernel(8, 8), 7, 1);
        refused(() -> {
            RateMonoKernel x = Sets.three();
            x.remove(1);
            return x;
        }, 1, 1);
    }

    private static void demandOutOfRange() {
        Check.sentence(5, "or `demand` is not in [1, 1000]");
        for (int demand : Check.outside(1, 1000)) {
            refused(Sets::three, 0, demand);
            refused(() -> Sets.threeAt(0), 0, demand);
            refused(() -> Sets.threeAt(10), 2, demand);
        }
    }

    private static void edgesInSetup() {
        Check.sentence(5, "Otherwise it sets the demand and answers `true`.", "in SETUP");
        RateMonoKernel x = Sets.full(8);
        setsAtTheEdges(x);
    }

    private static void edgesWhenRunning() {
        Check.sentence(5, "It is allowed in both phases.");
        RateMonoKernel x = Sets.full(8);
        x.start();
        setsAtTheEdges(x);
        x.run(1);
        setsAtTheEdges(x);
    }

    private static void setsAtTheEdges(RateMonoKernel x) {
        for (int slot : new int[] {0, 3, 7}) {
            for (int demand : new int[] {1000, 999, 1, 2, 255, 256}) {
                Check.due("setDemand(" + slot + ", " + demand + ")", x.setDemand(slot, demand), true);
                Check.dueField(x, slot, RateMonoKernel.F_DEMAND, demand);
            }
        }
    }

    private static void pendingJobKeepsRemaining() {
        Check.sentence(5, "A job that is already pending keeps what it got at its release: its remaining ticks");
        for (int demand : new int[] {1, 3, 4, 5, 1000}) {
            RateMonoKernel x = Check.with(1, 8, new int[][] {{10, 10, 4, 0}});
            x.start();
            x.run(1);
            x.setDemand(0, demand);
            Check.dueField(x, 0, RateMonoKernel.F_REMAINING, 3);
            x.run(2);
            Check.dueField(x, 0, RateMonoKernel.F_REMAINING, 1);
            x.run(1);
            Check.dueField(x, 0, RateMonoKernel.F_LAST, 4);
        }
    }

    private static void pendingJobKeepsItsMark() {
        Check.sentence(5, "and its OVERRUN mark do not change");
        RateMonoKernel x = Check.with(1, 8, new int[][] {{10, 10, 4, 0}});
        x.start();
        x.run(1);
        x.setDemand(0, 5);
        x.run(9);
        Check.dueField(x, 0, RateMonoKernel.F_OVERRUNS, 0);
        x.run(1);
        x.setDemand(0, 1);
        x.run(9);
        // Released with demand 5: stopped by the budget, though the demand is now 1.
        Check.dueField(x, 0, RateMonoKernel.F_OVERRUNS, 1);
        Check.dueLog(x, 4, 512 + 4);
    }

    private static void nextJobUsesIt() {
        Check.sentence(5, "Only jobs released later use the new demand.");
        RateMonoKernel x = Check.with(1, 8, new int[][] {{5, 5, 3, 0}});
        x.start();
        // Set with time at the release itself, and one tick before it.
        x.setDemand(0, 2);
        x.run(4);
        x.setDemand(0, 4);
        x.run(1);
        Check.dueLog(x, 2);
        x.run(5);
        x.setDemand(0, 1);
        x.run(5);
        Check.dueLog(x, 2, 512 + 3, 1);
    }

    private static void nothingElseChanges() {
        Check.sentence(5, "Bounds, blocking terms and all counts are unchanged.");
        for (int ticks : new int[] {-1, 0, 1, 3, 10, 40}) {
            for (int demand : new int[] {1, 3, 4, 1000}) {
                RateMonoKernel x = ticks < 0 ? Sets.three() : Sets.threeAt(ticks);
                String before = Check.picture(x);
                Check.due("setDemand(1, " + demand + ")", x.setDemand(1, demand), true);
                Check.dueField(x, 1, RateMonoKernel.F_DEMAND, demand);
                x.setDemand(1, 3);
                Check.dueText("the state with the old demand", Check.picture(x), before);
            }
        }
        RateMonoKernel x = Sets.three();
        x.setDemand(1, 1000);
        Check.dueTask(x, 1, 20, 20, 3, 2, 0, 1000, 8, 3, 0, 0, 0, 0, 0, 0, 0);
    }
}
