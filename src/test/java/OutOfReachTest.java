import java.lang.reflect.Field;
import java.util.HashSet;
import java.util.List;
import java.util.Set;

/**
 * Parts of promise 7 that no sensible run of calls comes to. An admitted set never
 * has a late or dropped job, and time wraps only after 2^31 ticks. So this test,
 * and no other, reaches into the object: it makes an admitted task worse than the
 * analysis allowed, or sets the clock.
 */
public final class OutOfReachTest {
    private static final String[] FIELDS = {
        "time", "idleTicks", "preemptions", "deadlineOf", "costOf", "releasedOf", "endedOf", "overrunsOf", "missesOf",
    };

    private static final String INT_ARITHMETIC =
        "Time, the counts and the response arithmetic are Java `int` values and follow Java `int` arithmetic.";

    public static void main(String[] args) throws ReflectiveOperationException {
        if (!isStoredAsKnown()) {
            // The document leaves the storage free, so another one is no fault.
            System.out.println("NOT RUN: the class keeps its state in other fields; name them here");
            return;
        }
        lateEnd();
        endOnTheDeadline();
        droppedJob();
        dropIsNoPreemption();
        dropOfAnotherJob();
        dropMakesTheMarkAnew();
        dropIsOneMissAndNoEnd();
        dropIsNotLogged();
        missesOfBothKinds();
        timeWraps();
        jobAcrossTheWrap();
        countsWrap();
        overrunsAndMissesWrap();
        preemptionsWrap();
        Check.end();
    }

    private static boolean isStoredAsKnown() {
        Set<String> names = new HashSet<>();
        for (Field f : RateMonoKernel.class.getDeclaredFields()) {
            names.add(f.getName());
        }
        return names.containsAll(List.of(FIELDS));
    }

    private static Field field(String name) throws ReflectiveOperationException {
        Field f = RateMonoKernel.class.getDeclaredField(name);
        f.setAccessible(true);
        return f;
    }

    private static void set(RateMonoKernel x, String name, int value) throws ReflectiveOperationException {
        field(name).setInt(x, value);
    }

    private static void setOf(RateMonoKernel x, String name, int slot, int value) throws ReflectiveOperationException {
        ((int[]) field(name).get(x))[slot] = value;
    }

    private static RateMonoKernel one(int period, int cost) {
        RateMonoKernel x = new RateMonoKernel(2, 8);
        x.admit(period, period, cost, 0);
        return x;
    }

    private static void lateEnd() throws ReflectiveOperationException {
        Check.sentence(7, "if r > D_i then misses_i increases by 1");
        RateMonoKernel x = one(10, 4);
        setOf(x, "deadlineOf", 0, 3);
        x.start();
        x.run(10);
        Check.dueTask(x, 0, 10, 3, 4, 0, 0, 4, 4, 0, 1, 1, 0, 1, 4, 4, 0);
        x.setDemand(0, 3);
        x.run(10);
        Check.dueTask(x, 0, 10, 3, 4, 0, 0, 3, 4, 0, 2, 2, 0, 1, 4, 3, 0);
        x.setDemand(0, 5);
        x.run(10);
        // A job can be both: stopped by the budget, and late.
        Check.dueTask(x, 0, 10, 3, 4, 0, 0, 5, 4, 0, 3, 3, 1, 2, 4, 4, 0);
        Check.dueLog(x, 4, 3, 512 + 4);
    }

    private static void endOnTheDeadline() throws ReflectiveOperationException {
        Check.sentence(7, "if r > D_i then misses_i increases by 1", "not if r == D_i");
        RateMonoKernel x = one(10, 4);
        setOf(x, "deadlineOf", 0, 4);
        x.start();
        x.run(10);
        Check.dueField(x, 0, RateMonoKernel.F_MISSES, 0);
    }

    private static void droppedJob() throws ReflectiveOperationException {
        Check.sentence(7, "If task i still has a pending job, that job is dropped: misses_i increases by 1");
        RateMonoKernel x = one(3, 3);
        setOf(x, "costOf", 0, 5);
        x.setDemand(0, 5);
        x.start();
        x.run(3);
        Check.dueTask(x, 0, 3, 3, 5, 0, 0, 5, 3, 0, 1, 0, 0, 0, 0, 0, 2);
        x.run(1);
        Check.dueTask(x, 0, 3, 3, 5, 0, 0, 5, 3, 0, 2, 0, 0, 1, 0, 0, 4);
        x.run(6);
        Check.dueTask(x, 0, 3, 3, 5, 0, 0, 5, 3, 0, 4, 0, 0, 3, 0, 0, 4);
        x.setDemand(0, 1);
        x.run(3);
        // The new job's response is counted from its own release.
        Check.dueTask(x, 0, 3, 3, 5, 0, 0, 1, 3, 0, 5, 1, 0, 4, 1, 1, 0);
        Check.dueLog(x, 1);
        Check.due("getPreemptions()", x.getPreemptions(), 0);
    }

    private static void dropIsNoPreemption() throws ReflectiveOperationException {
        Check.sentence(7, "A job dropped in step 1 is no longer pending.");
        RateMonoKernel x = one(4, 1);
        x.admit(5, 5, 2, 0);
        x.setOffset(0, 5);
        setOf(x, "costOf", 1, 20);
        x.setDemand(1, 20);
        x.start();
        x.run(5);
        Check.due("getRunning() at 5", x.getRunning(), 1);
        // At 5 the running job is dropped and a higher task takes over: nothing was preempted.
        x.run(1);
        Check.due("getRunning() at 6", x.getRunning(), 0);
        Check.dueField(x, 1, RateMonoKernel.F_MISSES, 1);
        Check.dueField(x, 1, RateMonoKernel.F_REMAINING, 20);
        Check.due("getPreemptions() at 6", x.getPreemptions(), 0);
        // At 9 the same task takes over from a job that stays pending.
        x.run(4);
        Check.due("getRunning() at 10", x.getRunning(), 0);
        Check.due("getPreemptions() at 10", x.getPreemptions(), 1);
    }

    private static void dropOfAnotherJob() throws ReflectiveOperationException {
        Check.sentence(7, "if the job that executed in the previous tick is still pending", "another one was dropped");
        int[][] tasks = {{10, 10, 2, 0}, {8, 8, 3, 0}, {5, 5, 1, 0}};
        for (int low = 0; low < 2; low++) {
            // The task whose job is dropped stands before or behind the one that runs.
            int[][] inSlots = {tasks[low], tasks[1 - low], tasks[2]};
            RateMonoKernel x = Check.with(3, 8, inSlots);
            x.setOffset(1 - low, 8);
            x.setOffset(2, 10);
            setOf(x, "costOf", low, 20);
            x.setDemand(low, 20);
            x.start();
            x.run(10);
            Check.due("getRunning() at 10", x.getRunning(), 1 - low);
            Check.due("getPreemptions() at 10", x.getPreemptions(), 1);
            x.run(1);
            Check.due("getRunning() at 11", x.getRunning(), 2);
            Check.dueField(x, low, RateMonoKernel.F_MISSES, 1);
            Check.due("getPreemptions() at 11", x.getPreemptions(), 2);
        }
    }

    private static void dropMakesTheMarkAnew() throws ReflectiveOperationException {
        Check.sentence(7, "(otherwise it is not marked, whatever the task's earlier jobs were)", "after a dropped job");
        RateMonoKernel x = one(3, 3);
        setOf(x, "costOf", 0, 4);
        x.setDemand(0, 9);
        x.start();
        x.run(3);
        x.setDemand(0, 2);
        x.run(3);
        Check.dueTask(x, 0, 3, 3, 4, 0, 0, 2, 3, 0, 2, 1, 0, 1, 2, 2, 0);
        Check.dueLog(x, 2);
    }

    private static void dropIsOneMissAndNoEnd() throws ReflectiveOperationException {
        Check.sentence(7, "the dropped job is not logged and does not count as ended");
        RateMonoKernel x = one(4, 4);
        setOf(x, "costOf", 0, 9);
        x.setDemand(0, 1000);
        x.start();
        x.run(401);
        Check.dueField(x, 0, RateMonoKernel.F_RELEASED, 101);
        Check.dueField(x, 0, RateMonoKernel.F_MISSES, 100);
        Check.dueField(x, 0, RateMonoKernel.F_ENDED, 0);
        Check.dueField(x, 0, RateMonoKernel.F_OVERRUNS, 0);
        Check.dueField(x, 0, RateMonoKernel.F_WORST, 0);
        Check.dueField(x, 0, RateMonoKernel.F_LAST, 0);
    }

    private static void dropIsNotLogged() throws ReflectiveOperationException {
        Check.sentence(15, "Dropped jobs are never logged.");
        RateMonoKernel x = one(4, 4);
        setOf(x, "costOf", 0, 9);
        x.setDemand(0, 1000);
        x.start();
        x.run(401);
        Check.dueLog(x);
        Check.due("getLogEntry(0)", x.getLogEntry(0), -1);
        x.setDemand(0, 2);
        // The jobs released at 404 and 408 end, and these alone are held.
        x.run(9);
        Check.dueLog(x, 2, 2);
    }

    private static void missesOfBothKinds() throws ReflectiveOperationException {
        Check.opening("deadline misses so far (late ends plus dropped jobs)");
        RateMonoKernel x = one(5, 5);
        setOf(x, "deadlineOf", 0, 3);
        setOf(x, "costOf", 0, 9);
        x.start();
        int[][] rows = {{3, 0}, {4, 1}, {9, 1}, {4, 3}, {9, 3}, {3, 4}};
        for (int[] row : rows) {
            x.setDemand(0, row[0]);
            x.run(5);
            Check.dueField(x, 0, RateMonoKernel.F_MISSES, row[1]);
        }
        Check.dueLog(x, 3, 4, 4, 3);
    }

    private static void timeWraps() throws ReflectiveOperationException {
        Check.sentence(7, INT_ARITHMETIC, "time");
        RateMonoKernel x = one(1, 1);
        x.start();
        set(x, "time", Integer.MAX_VALUE - 1);
        Check.due("run(2)", x.run(2), Integer.MIN_VALUE);
        Check.dueField(x, 0, RateMonoKernel.F_RELEASED, 2);
        Check.dueField(x, 0, RateMonoKernel.F_LAST, 1);
        // t >= O fails for every t below 0.
        Check.due("run(3)", x.run(3), Integer.MIN_VALUE + 3);
        Check.dueField(x, 0, RateMonoKernel.F_RELEASED, 2);
        Check.due("getIdleTicks()", x.getIdleTicks(), 3);
        set(x, "time", -2);
        Check.due("run(2)", x.run(2), 0);
        Check.dueField(x, 0, RateMonoKernel.F_RELEASED, 2);
        Check.due("run(1)", x.run(1), 1);
        Check.dueField(x, 0, RateMonoKernel.F_RELEASED, 3);
    }

    private static void jobAcrossTheWrap() throws ReflectiveOperationException {
        Check.sentence(7, INT_ARITHMETIC, "the response");
        RateMonoKernel x = one(10, 6);
        x.setOffset(0, 5);
        x.start();
        // 2147483645 - 5 is a multiple of 10.
        set(x, "time", 2147483644);
        x.run(1);
        Check.dueField(x, 0, RateMonoKernel.F_RELEASED, 0);
        x.run(6);
        Check.due("getTime()", x.getTime(), Integer.MIN_VALUE + 3);
        Check.dueTask(x, 0, 10, 10, 6, 0, 5, 6, 6, 0, 1, 1, 0, 0, 6, 6, 0);
        Check.dueLog(x, 6);
    }

    private static void countsWrap() throws ReflectiveOperationException {
        Check.sentence(7, INT_ARITHMETIC, "idle ticks, released and ended");
        RateMonoKernel x = one(2, 1);
        x.start();
        set(x, "idleTicks", Integer.MAX_VALUE);
        setOf(x, "releasedOf", 0, Integer.MAX_VALUE);
        setOf(x, "endedOf", 0, Integer.MAX_VALUE);
        x.run(2);
        Check.due("getIdleTicks()", x.getIdleTicks(), Integer.MIN_VALUE);
        Check.dueField(x, 0, RateMonoKernel.F_RELEASED, Integer.MIN_VALUE);
        Check.dueField(x, 0, RateMonoKernel.F_ENDED, Integer.MIN_VALUE);
        Check.dueLog(x, 1);
    }

    private static void overrunsAndMissesWrap() throws ReflectiveOperationException {
        Check.sentence(7, INT_ARITHMETIC, "overruns and misses");
        RateMonoKernel x = one(5, 4);
        setOf(x, "deadlineOf", 0, 3);
        x.setDemand(0, 5);
        x.start();
        setOf(x, "overrunsOf", 0, Integer.MAX_VALUE);
        setOf(x, "missesOf", 0, Integer.MAX_VALUE);
        x.run(5);
        Check.dueField(x, 0, RateMonoKernel.F_OVERRUNS, Integer.MIN_VALUE);
        Check.dueField(x, 0, RateMonoKernel.F_MISSES, Integer.MIN_VALUE);
        setOf(x, "costOf", 0, 9);
        setOf(x, "missesOf", 0, Integer.MAX_VALUE);
        x.setDemand(0, 9);
        // A drop at 10.
        x.run(6);
        Check.dueField(x, 0, RateMonoKernel.F_MISSES, Integer.MIN_VALUE);
    }

    private static void preemptionsWrap() throws ReflectiveOperationException {
        Check.sentence(7, INT_ARITHMETIC, "preemptions");
        RateMonoKernel x = Sets.threeAt(10);
        set(x, "preemptions", Integer.MAX_VALUE);
        x.run(1);
        Check.due("getPreemptions()", x.getPreemptions(), Integer.MIN_VALUE);
    }
}
