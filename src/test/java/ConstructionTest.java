/** Promise 1: construction and start state. */
public final class ConstructionTest {
    public static void main(String[] args) {
        neverFails();
        tasksTooFew();
        tasksTooMany();
        tasksInBetween();
        logTooSmall();
        logTooLarge();
        logInBetween();
        bothAreFixed();
        startState();
        objectsAreApart();
        Check.end();
    }

    private static void neverFails() {
        Check.sentence(1, "`new RateMonoKernel(maxTasks, logCap)` never fails.");
        int[] values = {Integer.MIN_VALUE, -65535, -1, 0, 1, 7, 8, 9, 31, 32, 33, 256, 65537, Integer.MAX_VALUE};
        for (int maxTasks : values) {
            for (int logCap : values) {
                RateMonoKernel x = new RateMonoKernel(maxTasks, logCap);
                Check.due("(" + maxTasks + ", " + logCap + "): admit", x.admit(1, 1, 1, 0), 0);
                x.start();
                Check.due("(" + maxTasks + ", " + logCap + "): run", x.run(100), 100);
            }
        }
    }

    private static void tasksTooFew() {
        Check.sentence(1, "a value below 1 becomes 1", "`maxTasks`");
        for (int asked : new int[] {Integer.MIN_VALUE, -256, -8, -1, 0}) {
            holdsTasks(asked, 1);
        }
    }

    private static void tasksTooMany() {
        Check.sentence(1, "a value above 8 becomes 8");
        for (int asked : new int[] {9, 10, 16, 256, 257, 65536, Integer.MAX_VALUE}) {
            holdsTasks(asked, 8);
        }
    }

    private static void tasksInBetween() {
        Check.sentence(1, "any value in between is kept", "`maxTasks`");
        for (int asked = 1; asked <= 8; asked++) {
            holdsTasks(asked, asked);
        }
    }

    private static void logTooSmall() {
        Check.sentence(1, "`logCap` is clamped into [8, 32] in the same way.", "too small");
        for (int asked : new int[] {Integer.MIN_VALUE, -256, -1, 0, 1, 7}) {
            holdsEntries(asked, 8);
        }
    }

    private static void logTooLarge() {
        Check.sentence(1, "`logCap` is clamped into [8, 32] in the same way.", "too large");
        for (int asked : new int[] {33, 64, 256, 264, 65536, Integer.MAX_VALUE}) {
            holdsEntries(asked, 32);
        }
    }

    private static void logInBetween() {
        Check.sentence(1, "`logCap` is clamped into [8, 32] in the same way.", "in between");
        for (int asked = 8; asked <= 32; asked++) {
            holdsEntries(asked, asked);
        }
    }

    private static void holdsTasks(int asked, int want) {
        RateMonoKernel x = new RateMonoKernel(asked, 8);
        for (int k = 0; k < want; k++) {
            Check.due("maxTasks " + asked + ": admit", x.admit(100, 100, 1, 0), k);
        }
        Check.due("maxTasks " + asked + ": one more", x.admit(100, 100, 1, 0), RateMonoKernel.ERR_FULL);
        Check.due("maxTasks " + asked + ": getTaskCount()", x.getTaskCount(), want);
    }

    private static void holdsEntries(int asked, int want) {
        RateMonoKernel x = Check.with(1, asked, new int[][] {{1, 1, 1, 0}});
        x.start();
        x.run(want - 1);
        Check.due("logCap " + asked + ": count before it is full", x.getLogCount(), want - 1);
        x.run(1);
        Check.due("logCap " + asked + ": count when full", x.getLogCount(), want);
        x.run(1);
        Check.due("logCap " + asked + ": count after one more", x.getLogCount(), want);
        Check.due("logCap " + asked + ": newest", x.getLogEntry(want - 1), 1);
        Check.due("logCap " + asked + ": behind the newest", x.getLogEntry(want), -1);
    }

    private static void bothAreFixed() {
        Check.sentence(1, "These two values are fixed for the life of the object.");
        RateMonoKernel x = new RateMonoKernel(3, 9);
        for (int round = 0; round < 3; round++) {
            for (int k = 0; k < 3; k++) {
                Check.due("admit(9, 9, 1, 0)", x.admit(9, 9, 1, 0), k);
            }
            Check.due("admit when full", x.admit(9, 9, 1, 0), RateMonoKernel.ERR_FULL);
            if (round < 2) {
                x.remove(0);
                x.remove(1);
                x.remove(2);
            }
        }
        x.start();
        for (int i = 0; i < 5; i++) {
            x.run(1000);
            Check.due("getLogCount()", x.getLogCount(), 9);
            Check.dueNoTask(x, 3);
        }
    }

    private static void startState() {
        Check.sentence(1, "The start state is: phase SETUP, no slot in use, time 0, no tick run yet");
        int[][] sizes = {{8, 32}, {1, 8}, {Integer.MIN_VALUE, Integer.MIN_VALUE}, {Integer.MAX_VALUE, Integer.MAX_VALUE}};
        for (int[] size : sizes) {
            RateMonoKernel x = new RateMonoKernel(size[0], size[1]);
            Check.due("isStarted()", x.isStarted(), false);
            Check.due("getTaskCount()", x.getTaskCount(), 0);
            Check.due("getTime()", x.getTime(), 0);
            Check.due("getRunning()", x.getRunning(), -1);
            Check.due("getIdleTicks()", x.getIdleTicks(), 0);
            Check.due("getPreemptions()", x.getPreemptions(), 0);
            Check.due("getLogCount()", x.getLogCount(), 0);
            Check.due("getLogEntry(0)", x.getLogEntry(0), -1);
            for (int slot = 0; slot < 8; slot++) {
                Check.dueNoTask(x, slot);
            }
        }
    }

    private static void objectsAreApart() {
        Check.sentence(1, "for the life of the object");
        RateMonoKernel b = new RateMonoKernel(2, 8);
        Check.changesNothing("calls on another object", b, unused -> {
            RateMonoKernel a = new RateMonoKernel(2, 8);
            a.admit(2, 2, 1, 0);
            a.start();
            a.run(10);
        });
    }
}
