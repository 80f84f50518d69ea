import java.util.List;
import java.util.function.ToIntFunction;

/** Promises 9 to 14: getTaskCount, isStarted, getTime, getRunning, getIdleTicks, getPreemptions. */
public final class CountsTest {
    public static void main(String[] args) {
        taskCount();
        taskCountAfterRefusals();
        started();
        timeInSetup();
        timeWhenRunning();
        runningBeforeATick();
        runningAfterAnIdleTick();
        runningSlot();
        idleTicks();
        idleTicksInSetup();
        preemptions();
        preemptionsInSetup();
        noneChangesAnything();
        Check.end();
    }

    private static void taskCount() {
        Check.sentence(9, "`getTaskCount()` answers the number of slots in use, from 0 to maxTasks.");
        for (int maxTasks = 1; maxTasks <= 8; maxTasks++) {
            RateMonoKernel x = new RateMonoKernel(maxTasks, 8);
            for (int k = 0; k < maxTasks; k++) {
                Check.due("getTaskCount()", x.getTaskCount(), k);
                x.admit(100, 100, 1, 0);
            }
            Check.due("getTaskCount() when full", x.getTaskCount(), maxTasks);
            for (int k = 0; k < maxTasks; k++) {
                x.remove(k);
                Check.due("getTaskCount()", x.getTaskCount(), maxTasks - k - 1);
            }
        }
    }

    private static void taskCountAfterRefusals() {
        Check.sentence(9, "the number of slots in use");
        RateMonoKernel x = Sets.full(8);
        x.admit(100, 100, 1, 0);
        Check.due("getTaskCount() after ERR_FULL", x.getTaskCount(), 8);
        x.remove(8);
        x.remove(5);
        x.remove(5);
        Check.due("getTaskCount() after removals", x.getTaskCount(), 7);
        x.admit(1, 1, 1, 0);
        x.admit(0, 0, 0, 0);
        Check.due("getTaskCount() after refusals", x.getTaskCount(), 7);
        x.start();
        x.run(50);
        x.admit(100, 100, 1, 0);
        x.remove(0);
        Check.due("getTaskCount() when running", x.getTaskCount(), 7);
    }

    private static void started() {
        Check.sentence(10, "`isStarted()` answers `true` in RUNNING and `false` in SETUP.");
        RateMonoKernel x = new RateMonoKernel(1, 8);
        Check.due("isStarted()", x.isStarted(), false);
        x.admit(10, 10, 1, 0);
        x.run(10);
        Check.due("isStarted()", x.isStarted(), false);
        x.start();
        Check.due("isStarted()", x.isStarted(), true);
        x.start();
        Check.due("isStarted() after a refused start", x.isStarted(), true);
        x.run(10);
        Check.due("isStarted()", x.isStarted(), true);
    }

    private static void timeInSetup() {
        Check.sentence(11, "`getTime()` answers the current time: 0 in SETUP");
        RateMonoKernel x = Sets.three();
        x.run(10);
        x.remove(0);
        Check.due("getTime()", x.getTime(), 0);
        x.start();
        Check.due("getTime() after start()", x.getTime(), 0);
    }

    private static void timeWhenRunning() {
        Check.sentence(11, "in RUNNING the number of ticks run since `start()`");
        RateMonoKernel x = Sets.threeAt(0);
        int due = 0;
        for (int ticks : new int[] {0, 1, -5, 2, 999, 0, 1000}) {
            x.run(ticks);
            due += Math.max(0, ticks);
            Check.due("getTime()", x.getTime(), due);
        }
        x.run(5000);
        Check.due("getTime() after run(5000)", x.getTime(), due + 1000);
        RateMonoKernel empty = new RateMonoKernel(1, 8);
        empty.start();
        empty.run(7);
        Check.due("getTime() with no task", empty.getTime(), 7);
    }

    private static void runningBeforeATick() {
        Check.sentence(12, "-1 if that tick was idle or no tick has run", "no tick");
        Check.due("getRunning() at first", new RateMonoKernel(1, 8).getRunning(), -1);
        RateMonoKernel x = Sets.three();
        Check.due("getRunning() in SETUP", x.getRunning(), -1);
        x.run(3);
        Check.due("getRunning() after a run in SETUP", x.getRunning(), -1);
        x.start();
        Check.due("getRunning() after start()", x.getRunning(), -1);
        x.run(0);
        Check.due("getRunning() after run(0)", x.getRunning(), -1);
    }

    private static void runningAfterAnIdleTick() {
        Check.sentence(12, "-1 if that tick was idle or no tick has run", "idle");
        RateMonoKernel x = Sets.one(3, 2);
        for (int slot : new int[] {0, 0, -1, 0, 0, -1}) {
            x.run(1);
            Check.due("getRunning()", x.getRunning(), slot);
            x.run(0);
            Check.due("getRunning() after run(0)", x.getRunning(), slot);
        }
    }

    private static void runningSlot() {
        Check.sentence(12, "`getRunning()` answers the slot whose job executed in the most recent tick");
        RateMonoKernel x = Sets.full(8);
        x.start();
        // Each job ends in its tick, and is still the one that executed.
        for (int slot = 0; slot < 8; slot++) {
            x.run(1);
            Check.due("getRunning()", x.getRunning(), slot);
        }
    }

    private static void idleTicks() {
        Check.sentence(13, "`getIdleTicks()` answers the number of idle ticks so far");
        RateMonoKernel x = Check.with(1, 8, new int[][] {{10, 10, 3, 0}});
        x.setOffset(0, 2);
        x.start();
        int[] due = {1, 2, 2, 2, 2, 3, 4, 5, 6, 7, 8, 9, 9, 9, 9, 10};
        for (int idle : due) {
            x.run(1);
            Check.due("getIdleTicks()", x.getIdleTicks(), idle);
        }
        RateMonoKernel busy = Sets.one(255, 255);
        busy.run(1000);
        Check.due("getIdleTicks() with none", busy.getIdleTicks(), 0);
        RateMonoKernel empty = new RateMonoKernel(1, 8);
        empty.start();
        empty.run(1000);
        empty.run(1);
        Check.due("getIdleTicks() with no task", empty.getIdleTicks(), 1001);
    }

    private static void idleTicksInSetup() {
        Check.sentence(13, "(0 in SETUP)");
        RateMonoKernel x = new RateMonoKernel(1, 8);
        x.run(10);
        Check.due("getIdleTicks()", x.getIdleTicks(), 0);
        x.start();
        Check.due("getIdleTicks() after start()", x.getIdleTicks(), 0);
    }

    private static void preemptions() {
        Check.sentence(14, "`getPreemptions()` answers the number of preemptions so far");
        RateMonoKernel x = Check.with(2, 8, new int[][] {{200, 150, 60, 7}, {10, 9, 2, 5}});
        x.setOffset(1, 3);
        x.start();
        int due = 0;
        for (int t = 0; t < 100; t++) {
            // Task 0 has its 60 ticks after 60 + 8 * 2 = 76; from then on task 1 finds nobody to preempt.
            due += t % 10 == 3 && t < 76 ? 1 : 0;
            x.run(1);
            Check.due("getPreemptions()", x.getPreemptions(), due);
        }
        Check.due("getPreemptions() at last", x.getPreemptions(), 8);
    }

    private static void preemptionsInSetup() {
        Check.sentence(14, "counted as in step 2 of `run` (0 in SETUP)");
        RateMonoKernel x = Sets.three();
        x.run(10);
        Check.due("getPreemptions()", x.getPreemptions(), 0);
        x.start();
        Check.due("getPreemptions() after start()", x.getPreemptions(), 0);
    }

    private static void noneChangesAnything() {
        int[] promises = {9, 10, 11, 12, 13, 14};
        ToIntFunction<RateMonoKernel> phase = x -> x.isStarted() ? 1 : 0;
        List<ToIntFunction<RateMonoKernel>> calls = List.of(
            RateMonoKernel::getTaskCount, phase, RateMonoKernel::getTime,
            RateMonoKernel::getRunning, RateMonoKernel::getIdleTicks, RateMonoKernel::getPreemptions);
        int[] dueInSetup = {3, 0, 0, -1, 0, 0};
        // At 10: ticks 0 and 1 to task 0, 2 to 4 to task 1, 8 and 9 to task 2, which the next tick preempts.
        int[] dueAtTen = {3, 1, 10, 2, 3, 0};
        for (int i = 0; i < promises.length; i++) {
            Check.sentence(promises[i], "It changes nothing.");
            Check.noTrace("the call", Sets::three, calls.get(i), dueInSetup[i]);
            Check.noTrace("the call", () -> Sets.threeAt(10), calls.get(i), dueAtTen[i]);
        }
    }
}
