/** Promise 6: start. */
public final class StartTest {
    public static void main(String[] args) {
        alreadyRunning();
        becomesRunning();
        withNoTask();
        withEverySlotInUse();
        tasksAreFixed();
        demandStaysOpen();
        runsNoTick();
        Check.end();
    }

    private static void alreadyRunning() {
        Check.sentence(6, "`start()` is refused (answers `false`, changes nothing) if the phase is already RUNNING.");
        for (int ticks : new int[] {0, 1, 3, 7, 10, 100}) {
            Check.refused("start() after " + ticks + " ticks", () -> Sets.threeAt(ticks), RateMonoKernel::start);
        }
        Check.refused("start() with no task", () -> {
            RateMonoKernel x = new RateMonoKernel(1, 8);
            x.start();
            return x;
        }, RateMonoKernel::start);
    }

    private static void becomesRunning() {
        Check.sentence(6, "Otherwise the phase becomes RUNNING with time 0, and the answer is `true`.");
        RateMonoKernel x = Sets.three();
        // A run in SETUP takes no time.
        x.run(9);
        Check.due("start()", x.start(), true);
        Check.due("isStarted()", x.isStarted(), true);
        Check.due("getTime()", x.getTime(), 0);
        Check.due("run(1)", x.run(1), 1);
    }

    private static void withNoTask() {
        Check.sentence(6, "Starting with no task in use is allowed.");
        RateMonoKernel x = new RateMonoKernel(2, 8);
        Check.due("start()", x.start(), true);
        Check.due("isStarted()", x.isStarted(), true);
        Check.due("getTaskCount()", x.getTaskCount(), 0);
        Check.due("run(12)", x.run(12), 12);
        Check.due("getIdleTicks()", x.getIdleTicks(), 12);
        Check.due("getRunning()", x.getRunning(), -1);
        RateMonoKernel y = Check.with(1, 8, new int[][] {{5, 5, 5, 0}});
        y.remove(0);
        Check.due("start() after the last removal", y.start(), true);
        Check.due("run(12)", y.run(12), 12);
        Check.due("getIdleTicks()", y.getIdleTicks(), 12);
    }

    private static void withEverySlotInUse() {
        Check.sentence(6, "Otherwise the phase becomes RUNNING", "with every slot in use");
        RateMonoKernel x = Sets.full(8);
        Check.due("start()", x.start(), true);
        Check.due("getTaskCount()", x.getTaskCount(), 8);
    }

    private static void tasksAreFixed() {
        Check.sentence(6, "`admit`, `remove` and `setOffset` are refused in RUNNING");
        for (int ticks : new int[] {0, 1, 1000}) {
            RateMonoKernel x = Sets.threeAt(ticks);
            Check.changesNothing("the calls", x, k -> {
                Check.due("admit(100, 100, 1, 0)", k.admit(100, 100, 1, 0), RateMonoKernel.ERR_STARTED);
                Check.due("remove(0)", k.remove(0), false);
                Check.due("setOffset(0, 1)", k.setOffset(0, 1), false);
            });
        }
    }

    private static void demandStaysOpen() {
        Check.sentence(6, "while `setDemand` stays allowed");
        RateMonoKernel x = Sets.three();
        x.start();
        Check.due("setDemand(0, 9)", x.setDemand(0, 9), true);
        x.run(1000);
        Check.due("setDemand(0, 10)", x.setDemand(0, 10), true);
        Check.dueField(x, 0, RateMonoKernel.F_DEMAND, 10);
    }

    private static void runsNoTick() {
        Check.sentence(6, "No tick is run by `start()`, so the running task stays -1 and all counts stay 0 until `run` is called.");
        RateMonoKernel x = Sets.three();
        String before = Check.picture(x);
        x.start();
        Check.dueText("the state after start()", Check.picture(x), before.replace("started false", "started true"));
        Check.due("getRunning()", x.getRunning(), -1);
        Check.due("getIdleTicks()", x.getIdleTicks(), 0);
        for (int slot = 0; slot < 3; slot++) {
            for (int f = RateMonoKernel.F_RELEASED; f <= RateMonoKernel.F_REMAINING; f++) {
                Check.dueField(x, slot, f, 0);
            }
        }
    }
}
