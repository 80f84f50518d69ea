/** Promises 8 to 15: what the get methods and isStarted answer. */
public final class QueriesTest {
    public static void main(String[] args) {
        fields();
        wrongFields();
        taskCount();
        started();
        globalCounts();
        logOrder();
        logEdges();
        logOfTheHighestSlot();
        longestResponse();
        queriesChangeNothing();
        Check.end();
    }

    private static RateMonoKernel ran() {
        RateMonoKernel x = new RateMonoKernel(3, 8);
        x.admit(200, 150, 60, 7);
        x.admit(10, 9, 2, 5);
        x.setOffset(1, 3);
        x.setDemand(1, 8);
        x.start();
        x.run(25);
        return x;
    }

    private static void fields() {
        // Task 1 runs in ticks 3, 4, 13, 14, 23 and 24; task 0 in the other 19.
        Check.dueTask(ran(), 0, 200, 150, 60, 7, 0, 60, 76, 0, 1, 0, 0, 0, 0, 0, 41);
        Check.dueTask(ran(), 1, 10, 9, 2, 5, 3, 8, 9, 7, 3, 3, 3, 0, 2, 2, 0);
    }

    private static void wrongFields() {
        RateMonoKernel x = ran();
        for (int f : new int[] {Integer.MIN_VALUE, -1, 15, 16, 1000, Integer.MAX_VALUE}) {
            Check.dueField(x, 0, f, -1);
        }
        for (int slot : new int[] {Integer.MIN_VALUE, -1, 2, 3, 7, 8, Integer.MAX_VALUE}) {
            for (int f = 0; f <= 14; f++) {
                Check.dueField(x, slot, f, -1);
            }
        }
    }

    private static void taskCount() {
        RateMonoKernel x = new RateMonoKernel(8, 8);
        for (int k = 0; k < 8; k++) {
            Check.due("getTaskCount()", x.getTaskCount(), k);
            x.admit(100, 100, 1, 0);
        }
        Check.due("getTaskCount()", x.getTaskCount(), 8);
        x.admit(100, 100, 1, 0);
        Check.due("getTaskCount() after a refusal", x.getTaskCount(), 8);
        x.remove(0);
        x.remove(5);
        x.remove(5);
        Check.due("getTaskCount() after removals", x.getTaskCount(), 6);
        x.start();
        x.run(50);
        Check.due("getTaskCount() when running", x.getTaskCount(), 6);
    }

    private static void started() {
        RateMonoKernel x = new RateMonoKernel(1, 8);
        Check.due("isStarted()", x.isStarted(), false);
        x.admit(10, 10, 1, 0);
        x.run(10);
        Check.due("isStarted()", x.isStarted(), false);
        Check.due("getTime() in SETUP", x.getTime(), 0);
        x.start();
        Check.due("isStarted()", x.isStarted(), true);
        Check.due("getTime() after start", x.getTime(), 0);
        x.start();
        x.run(10);
        Check.due("isStarted()", x.isStarted(), true);
        Check.due("getTime()", x.getTime(), 10);
    }

    private static void globalCounts() {
        RateMonoKernel x = ran();
        Check.due("getTime()", x.getTime(), 25);
        Check.due("getRunning()", x.getRunning(), 1);
        Check.due("getIdleTicks()", x.getIdleTicks(), 0);
        Check.due("getPreemptions()", x.getPreemptions(), 3);
        x.run(75);
        // Task 0 has its 60 ticks after 60 + 8 * 2 = 76; then task 1 alone runs, at 83, 84, 93 and 94.
        Check.due("getTime()", x.getTime(), 100);
        Check.due("getRunning()", x.getRunning(), -1);
        Check.due("getIdleTicks()", x.getIdleTicks(), 20);
        Check.due("getPreemptions()", x.getPreemptions(), 8);
        Check.dueField(x, 0, RateMonoKernel.F_LAST, 76);
    }

    private static void logOrder() {
        RateMonoKernel x = new RateMonoKernel(1, 9);
        x.admit(20, 20, 15, 0);
        x.start();
        for (int demand = 1; demand <= 9; demand++) {
            x.setDemand(0, demand);
            x.run(20);
            Check.due("getLogCount()", x.getLogCount(), demand);
        }
        Check.dueLog(x, 1, 2, 3, 4, 5, 6, 7, 8, 9);
        x.setDemand(0, 10);
        x.run(20);
        Check.dueLog(x, 2, 3, 4, 5, 6, 7, 8, 9, 10);
        for (int demand = 11; demand <= 17; demand++) {
            x.setDemand(0, demand);
            x.run(20);
        }
        Check.dueLog(x, 9, 10, 11, 12, 13, 14, 15, 512 + 15, 512 + 15);
        Check.dueField(x, 0, RateMonoKernel.F_ENDED, 17);
    }

    private static void logEdges() {
        RateMonoKernel x = new RateMonoKernel(1, 8);
        x.admit(10, 10, 2, 0);
        x.start();
        Check.due("getLogEntry(0) of an empty log", x.getLogEntry(0), -1);
        x.run(1);
        Check.due("getLogCount() with a job pending", x.getLogCount(), 0);
        x.run(20);
        Check.dueLog(x, 2, 2);
        for (int i : new int[] {Integer.MIN_VALUE, -1, 2, 3, 7, 8, 31, 32, Integer.MAX_VALUE}) {
            Check.due("getLogEntry(" + i + ")", x.getLogEntry(i), -1);
        }
    }

    private static void logOfTheHighestSlot() {
        RateMonoKernel x = new RateMonoKernel(8, 8);
        for (int k = 0; k < 8; k++) {
            x.admit(100, 100, 3, 0);
            x.setDemand(k, k % 2 == 0 ? 3 : 4);
        }
        x.start();
        x.run(24);
        for (int k = 0; k < 8; k++) {
            int entry = x.getLogEntry(k);
            Check.due("entry / 1024", entry / 1024, k);
            Check.due("entry % 512", entry % 512, 3 * k + 3);
            Check.due("the 512 part", entry / 512 % 2, k % 2);
        }
    }

    private static void longestResponse() {
        RateMonoKernel x = new RateMonoKernel(2, 8);
        x.admit(255, 255, 255, 0);
        x.setDemand(0, 1000);
        x.start();
        x.run(254);
        Check.dueField(x, 0, RateMonoKernel.F_REMAINING, 1);
        x.run(1);
        Check.dueLog(x, 512 + 255);
        Check.dueTask(x, 0, 255, 255, 255, 0, 0, 1000, 255, 0, 1, 1, 1, 0, 255, 255, 0);
    }

    private static void queriesChangeNothing() {
        RateMonoKernel asked = ran();
        RateMonoKernel plain = ran();
        Check.changesNothing("all queries", asked, Check::picture);
        asked.run(500);
        plain.run(500);
        Check.dueText("500 ticks on", Check.picture(asked), Check.picture(plain));
    }
}
