/** Promises 3 to 6: remove, setOffset, setDemand, start. */
public final class SetupCallsTest {
    public static void main(String[] args) {
        removal();
        removalFreesRoom();
        refusedRemovals();
        offsets();
        offsetsMoveTheFirstRelease();
        demands();
        demandOfPendingJob();
        starting();
        startingEmpty();
        Check.end();
    }

    private static RateMonoKernel threeTasks() {
        RateMonoKernel x = new RateMonoKernel(4, 8);
        x.admit(10, 10, 2, 1);
        x.admit(20, 20, 3, 2);
        x.admit(40, 40, 4, 3);
        x.setOffset(2, 5);
        x.setDemand(2, 77);
        return x;
    }

    private static void removal() {
        RateMonoKernel x = threeTasks();
        Check.dueTask(x, 0, 10, 10, 2, 1, 0, 2, 5, 3);
        Check.dueTask(x, 1, 20, 20, 3, 2, 0, 3, 8, 3);
        Check.dueTask(x, 2, 40, 40, 4, 3, 5, 77, 9, 0);
        Check.due("remove(1)", x.remove(1), true);
        Check.due("getTaskCount()", x.getTaskCount(), 2);
        Check.dueTask(x, 0, 10, 10, 2, 1, 0, 2, 5, 3, 0, 0, 0, 0, 0, 0, 0);
        Check.dueTask(x, 1, -1, -1, -1, -1, -1, -1, -1, -1, -1, -1, -1, -1, -1, -1, -1);
        Check.dueTask(x, 2, 40, 40, 4, 3, 5, 77, 6, 0, 0, 0, 0, 0, 0, 0, 0);
        Check.due("remove(1) again", x.remove(1), false);
        Check.due("remove(2)", x.remove(2), true);
        Check.dueTask(x, 0, 10, 10, 2, 1, 0, 2, 2, 0);
        Check.due("remove(0)", x.remove(0), true);
        Check.due("getTaskCount()", x.getTaskCount(), 0);
    }

    private static void removalFreesRoom() {
        RateMonoKernel x = new RateMonoKernel(2, 8);
        x.admit(10, 10, 6, 0);
        Check.due("no room", x.admit(10, 10, 5, 0), RateMonoKernel.ERR_UNSCHEDULABLE);
        x.remove(0);
        Check.due("room", x.admit(10, 10, 5, 0), 0);
    }

    private static void refusedRemovals() {
        RateMonoKernel x = threeTasks();
        for (int slot : new int[] {Integer.MIN_VALUE, -1, 3, 4, 7, 8, Integer.MAX_VALUE}) {
            Check.changesNothing("remove(" + slot + ")", x, k -> Check.due("remove(" + slot + ")", k.remove(slot), false));
        }
        x.start();
        Check.changesNothing("remove when started", x, k -> Check.due("remove(0)", k.remove(0), false));
    }

    private static void offsets() {
        RateMonoKernel x = threeTasks();
        for (int offset : new int[] {1, 255, 0, 128}) {
            Check.due("setOffset(1, " + offset + ")", x.setOffset(1, offset), true);
            Check.dueTask(x, 1, 20, 20, 3, 2, offset, 3, 8, 3, 0, 0, 0, 0, 0, 0, 0);
            Check.dueTask(x, 0, 10, 10, 2, 1, 0, 2, 5, 3);
            Check.dueTask(x, 2, 40, 40, 4, 3, 5, 77, 9, 0);
        }
        for (int offset : new int[] {Integer.MIN_VALUE, -1, 256, Integer.MAX_VALUE}) {
            Check.changesNothing("setOffset(1, " + offset + ")", x, k ->
                Check.due("setOffset(1, " + offset + ")", k.setOffset(1, offset), false));
        }
        for (int slot : new int[] {Integer.MIN_VALUE, -1, 3, 4, 8, Integer.MAX_VALUE}) {
            Check.changesNothing("setOffset(" + slot + ", 1)", x, k ->
                Check.due("setOffset(" + slot + ", 1)", k.setOffset(slot, 1), false));
        }
        x.start();
        Check.changesNothing("setOffset when started", x, k -> Check.due("setOffset(1, 1)", k.setOffset(1, 1), false));
    }

    private static void offsetsMoveTheFirstRelease() {
        RateMonoKernel x = new RateMonoKernel(1, 8);
        x.admit(3, 3, 1, 0);
        x.setOffset(0, 255);
        x.start();
        x.run(255);
        Check.dueField(x, 0, RateMonoKernel.F_RELEASED, 0);
        Check.due("getIdleTicks()", x.getIdleTicks(), 255);
        x.run(1);
        Check.dueField(x, 0, RateMonoKernel.F_RELEASED, 1);
        Check.due("getRunning()", x.getRunning(), 0);
        x.run(2);
        Check.dueField(x, 0, RateMonoKernel.F_RELEASED, 1);
        x.run(1);
        Check.dueField(x, 0, RateMonoKernel.F_RELEASED, 2);
    }

    private static void demands() {
        RateMonoKernel x = threeTasks();
        for (int demand : new int[] {1, 1000, 3, 4, 255, 256}) {
            Check.due("setDemand(1, " + demand + ")", x.setDemand(1, demand), true);
            Check.dueTask(x, 1, 20, 20, 3, 2, 0, demand, 8, 3, 0, 0, 0, 0, 0, 0, 0);
            Check.dueTask(x, 0, 10, 10, 2, 1, 0, 2, 5, 3);
            Check.dueTask(x, 2, 40, 40, 4, 3, 5, 77, 9, 0);
        }
        for (int phase = 0; phase < 2; phase++) {
            for (int demand : new int[] {Integer.MIN_VALUE, -1, 0, 1001, Integer.MAX_VALUE}) {
                Check.changesNothing("setDemand(1, " + demand + ")", x, k ->
                    Check.due("setDemand(1, " + demand + ")", k.setDemand(1, demand), false));
            }
            for (int slot : new int[] {Integer.MIN_VALUE, -1, 3, 4, 8, Integer.MAX_VALUE}) {
                Check.changesNothing("setDemand(" + slot + ", 1)", x, k ->
                    Check.due("setDemand(" + slot + ", 1)", k.setDemand(slot, 1), false));
            }
            x.start();
            x.run(3);
        }
        Check.due("setDemand(1, 1000) when started", x.setDemand(1, 1000), true);
        Check.dueField(x, 1, RateMonoKernel.F_DEMAND, 1000);
    }

    private static void demandOfPendingJob() {
        RateMonoKernel x = new RateMonoKernel(1, 8);
        x.admit(10, 10, 4, 0);
        x.start();
        x.run(1);
        x.setDemand(0, 5);
        Check.dueTask(x, 0, 10, 10, 4, 0, 0, 5, 4, 0, 1, 0, 0, 0, 0, 0, 3);
        x.run(9);
        // Released before the call: not stopped by the budget.
        Check.dueTask(x, 0, 10, 10, 4, 0, 0, 5, 4, 0, 1, 1, 0, 0, 4, 4, 0);
        x.run(1);
        x.setDemand(0, 1);
        Check.dueField(x, 0, RateMonoKernel.F_REMAINING, 3);
        x.run(9);
        // Released with demand 5: stopped by the budget, though the demand is now 1.
        Check.dueTask(x, 0, 10, 10, 4, 0, 0, 1, 4, 0, 2, 2, 1, 0, 4, 4, 0);
        x.run(10);
        Check.dueTask(x, 0, 10, 10, 4, 0, 0, 1, 4, 0, 3, 3, 1, 0, 4, 1, 0);
        Check.dueLog(x, 4, 512 + 4, 1);
    }

    private static void starting() {
        RateMonoKernel x = threeTasks();
        String before = Check.picture(x);
        Check.due("start()", x.start(), true);
        Check.dueText("the state after start()", Check.picture(x), before.replace("started false", "started true"));
        Check.changesNothing("a second start", x, k -> Check.due("start()", k.start(), false));
        x.run(7);
        Check.changesNothing("a later start", x, k -> Check.due("start()", k.start(), false));
        Check.due("run goes on", x.run(1), 8);
    }

    private static void startingEmpty() {
        RateMonoKernel x = new RateMonoKernel(2, 8);
        Check.due("start()", x.start(), true);
        Check.due("isStarted()", x.isStarted(), true);
        Check.due("run(12)", x.run(12), 12);
        Check.due("getIdleTicks()", x.getIdleTicks(), 12);
        Check.due("getRunning()", x.getRunning(), -1);
        Check.due("getTaskCount()", x.getTaskCount(), 0);
        Check.due("admit(10, 10, 1, 0)", x.admit(10, 10, 1, 0), RateMonoKernel.ERR_STARTED);
    }
}
