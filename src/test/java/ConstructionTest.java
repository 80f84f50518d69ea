/** Promise 1. */
public final class ConstructionTest {
    public static void main(String[] args) {
        capacityForTasks(Integer.MIN_VALUE, 1);
        capacityForTasks(-1, 1);
        capacityForTasks(0, 1);
        for (int n = 1; n <= 8; n++) {
            capacityForTasks(n, n);
        }
        capacityForTasks(9, 8);
        capacityForTasks(Integer.MAX_VALUE, 8);

        capacityForLog(Integer.MIN_VALUE, 8);
        capacityForLog(0, 8);
        capacityForLog(7, 8);
        for (int n = 8; n <= 32; n++) {
            capacityForLog(n, n);
        }
        capacityForLog(33, 32);
        capacityForLog(Integer.MAX_VALUE, 32);

        startState(new RateMonoKernel(8, 32));
        startState(new RateMonoKernel(Integer.MIN_VALUE, Integer.MIN_VALUE));
        startState(new RateMonoKernel(Integer.MAX_VALUE, Integer.MAX_VALUE));
        objectsAreApart();
        Check.end();
    }

    private static void capacityForTasks(int asked, int want) {
        RateMonoKernel x = new RateMonoKernel(asked, 8);
        for (int k = 0; k < want; k++) {
            Check.due("maxTasks " + asked + ": admit", x.admit(100, 100, 1, 0), k);
        }
        Check.due("maxTasks " + asked + ": one more", x.admit(100, 100, 1, 0), RateMonoKernel.ERR_FULL);
        Check.due("maxTasks " + asked + ": getTaskCount()", x.getTaskCount(), want);
        Check.due("maxTasks " + asked + ": getTask(" + want + ", 0)", x.getTask(want, 0), -1);
        Check.due("maxTasks " + asked + ": remove(" + want + ")", x.remove(want), false);
        Check.due("maxTasks " + asked + ": setOffset(" + want + ", 1)", x.setOffset(want, 1), false);
        Check.due("maxTasks " + asked + ": setDemand(" + want + ", 1)", x.setDemand(want, 1), false);
    }

    private static void capacityForLog(int asked, int want) {
        RateMonoKernel x = new RateMonoKernel(1, asked);
        x.admit(1, 1, 1, 0);
        x.start();
        x.run(want - 1);
        Check.due("logCap " + asked + ": count before it is full", x.getLogCount(), want - 1);
        x.run(1);
        Check.due("logCap " + asked + ": count when full", x.getLogCount(), want);
        x.run(100);
        Check.due("logCap " + asked + ": count after more", x.getLogCount(), want);
        Check.due("logCap " + asked + ": newest", x.getLogEntry(want - 1), 1);
        Check.due("logCap " + asked + ": behind the newest", x.getLogEntry(want), -1);
    }

    private static void startState(RateMonoKernel x) {
        Check.due("isStarted()", x.isStarted(), false);
        Check.due("getTaskCount()", x.getTaskCount(), 0);
        Check.due("getTime()", x.getTime(), 0);
        Check.due("getRunning()", x.getRunning(), -1);
        Check.due("getIdleTicks()", x.getIdleTicks(), 0);
        Check.due("getPreemptions()", x.getPreemptions(), 0);
        Check.due("getLogCount()", x.getLogCount(), 0);
        Check.due("getLogEntry(0)", x.getLogEntry(0), -1);
        for (int slot = -1; slot <= 8; slot++) {
            for (int f = -1; f <= 15; f++) {
                Check.dueField(x, slot, f, -1);
            }
        }
    }

    private static void objectsAreApart() {
        RateMonoKernel a = new RateMonoKernel(2, 8);
        RateMonoKernel b = new RateMonoKernel(2, 8);
        Check.changesNothing("calls on another object", b, unused -> {
            a.admit(2, 2, 1, 0);
            a.start();
            a.run(10);
        });
    }
}
