/** Promise 15: getLogCount and getLogEntry. */
public final class LogTest {
    public static void main(String[] args) {
        emptyLog();
        upToTheCapacity();
        endsOfAllTasks();
        pendingJobIsNotHeld();
        oldestToNewest();
        aroundManyTimes();
        indexOutOfRange();
        indexBehindAPartlyFullLog();
        responseOfOne();
        responseOf255();
        everySlot();
        partOf512();
        neitherChangesAnything();
        Check.end();
    }

    private static void emptyLog() {
        Check.sentence(15, "The answer is -1 if `i` is not in [0, getLogCount()-1].", "no entry is held");
        RateMonoKernel[] empty = {new RateMonoKernel(1, 8), Sets.three(), Sets.threeAt(0), Sets.threeAt(1)};
        for (RateMonoKernel x : empty) {
            Check.due("getLogCount()", x.getLogCount(), 0);
            for (int i : new int[] {Integer.MIN_VALUE, -1, 0, 1, 7, 8, 31, 32, Integer.MAX_VALUE}) {
                Check.due("getLogEntry(" + i + ")", x.getLogEntry(i), -1);
            }
        }
    }

    private static void upToTheCapacity() {
        Check.sentence(15, "the number of log entries held, which is min(total jobs ended over all tasks, logCap)");
        for (int logCap : new int[] {8, 9, 16, 31, 32}) {
            RateMonoKernel x = Check.with(1, logCap, new int[][] {{1, 1, 1, 0}});
            x.start();
            for (int ended = 1; ended <= 3 * logCap; ended++) {
                x.run(1);
                Check.due("getLogCount() of " + logCap, x.getLogCount(), Math.min(ended, logCap));
            }
        }
    }

    private static void endsOfAllTasks() {
        Check.sentence(15, "total jobs ended over all tasks");
        RateMonoKernel x = Check.with(3, 32, new int[][] {{10, 10, 1, 0}, {20, 20, 2, 0}, {40, 40, 3, 0}});
        x.start();
        x.run(40);
        Check.due("getLogCount()", x.getLogCount(), 4 + 2 + 1);
        x.run(1000);
        Check.due("getLogCount()", x.getLogCount(), 32);
    }

    private static void pendingJobIsNotHeld() {
        Check.sentence(15, "jobs ended");
        RateMonoKernel x = Sets.one(10, 3);
        for (int due : new int[] {0, 0, 1, 1}) {
            x.run(1);
            Check.due("getLogCount()", x.getLogCount(), due);
        }
    }

    private static void oldestToNewest() {
        Check.sentence(15, "where 0 is the oldest held and getLogCount()-1 the newest");
        RateMonoKernel x = Check.with(1, 9, new int[][] {{20, 20, 15, 0}});
        x.start();
        for (int demand = 1; demand <= 9; demand++) {
            x.setDemand(0, demand);
            x.run(20);
        }
        Check.dueLog(x, 1, 2, 3, 4, 5, 6, 7, 8, 9);
        x.setDemand(0, 10);
        x.run(20);
        Check.dueLog(x, 2, 3, 4, 5, 6, 7, 8, 9, 10);
        for (int demand = 11; demand <= 17; demand++) {
            x.setDemand(0, demand);
            x.run(20);
        }
        Check.dueLog(x, 9, 10, 11, 12, 13, 14, 15, 512 + 15, 512 + 15);
        Check.dueField(x, 0, RateMonoKernel.F_ENDED, 17);
    }

    private static void aroundManyTimes() {
        Check.sentence(15, "0 is the oldest held", "a log that was filled many times over");
        for (int logCap : new int[] {8, 13, 31, 32}) {
            RateMonoKernel x = Check.with(1, logCap, new int[][] {{100, 100, 100, 0}});
            x.start();
            for (int ended = 1; ended <= 5 * logCap + 3; ended++) {
                x.setDemand(0, 1 + ended % 97);
                x.run(100);
                int held = Math.min(ended, logCap);
                for (int i = 0; i < held; i++) {
                    int job = ended - held + 1 + i;
                    Check.due("getLogEntry(" + i + ") of " + held, x.getLogEntry(i), 1 + job % 97);
                }
                Check.due("getLogEntry(" + held + ") of " + held, x.getLogEntry(held), -1);
            }
        }
    }

    private static void indexOutOfRange() {
        Check.sentence(15, "The answer is -1 if `i` is not in [0, getLogCount()-1].", "the log is full");
        for (int logCap : new int[] {8, 20, 32}) {
            RateMonoKernel x = Check.with(1, logCap, new int[][] {{1, 1, 1, 0}});
            x.start();
            x.run(logCap + 5);
            for (int i : Check.outside(0, logCap - 1)) {
                Check.due("getLogEntry(" + i + ") of " + logCap, x.getLogEntry(i), -1);
            }
            Check.due("the oldest", x.getLogEntry(0), 1);
            Check.due("the newest", x.getLogEntry(logCap - 1), 1);
        }
    }

    private static void indexBehindAPartlyFullLog() {
        Check.sentence(15, "The answer is -1 if `i` is not in [0, getLogCount()-1].", "the log is not full");
        RateMonoKernel x = Sets.one(10, 2);
        x.run(20);
        Check.dueLog(x, 2, 2);
        for (int i : Check.outside(0, 1)) {
            Check.due("getLogEntry(" + i + ")", x.getLogEntry(i), -1);
        }
        Check.due("getLogEntry(7)", x.getLogEntry(7), -1);
    }

    private static void responseOfOne() {
        Check.sentence(15, "(The response is always in [1, 255].)", "1");
        RateMonoKernel x = Sets.one(1, 1);
        x.run(1);
        Check.dueLog(x, 1);
        x.setDemand(0, 2);
        x.run(1);
        Check.dueLog(x, 1, 512 + 1);
    }

    private static void responseOf255() {
        Check.sentence(15, "(The response is always in [1, 255].)", "255");
        RateMonoKernel x = Sets.one(255, 255);
        x.setDemand(0, 1000);
        x.run(254);
        Check.due("getLogCount()", x.getLogCount(), 0);
        x.run(1);
        Check.dueLog(x, 512 + 255);
        x.setDemand(0, 255);
        x.run(255);
        Check.dueLog(x, 512 + 255, 255);
        // The greatest entry there can be.
        RateMonoKernel y = new RateMonoKernel(8, 8);
        for (int k = 0; k < 7; k++) {
            y.admit(255, 255, 1, 0);
        }
        Check.due("admit(255, 255, 248, 0)", y.admit(255, 255, 248, 0), 7);
        y.setDemand(7, 249);
        y.start();
        y.run(255);
        Check.due("getLogEntry(7)", y.getLogEntry(7), 7 * 1024 + 512 + 255);
    }

    private static void everySlot() {
        Check.sentence(15, "So entry / 1024 is the slot, entry % 512 is the response");
        RateMonoKernel x = Sets.full(8);
        x.start();
        x.run(8);
        for (int k = 0; k < 8; k++) {
            int entry = x.getLogEntry(k);
            Check.due("entry / 1024", entry / 1024, k);
            Check.due("entry % 512", entry % 512, k + 1);
            Check.due("the 512 part", entry / 512 % 2, 0);
        }
    }

    private static void partOf512() {
        Check.sentence(15, "the 512 part is set exactly when the ended job was marked OVERRUN");
        RateMonoKernel x = Sets.full(8);
        for (int k = 0; k < 8; k++) {
            x.setDemand(k, 1 + k % 2);
        }
        x.start();
        x.run(8);
        Check.dueLog(x, 1, 1024 + 512 + 2, 2048 + 3, 3072 + 512 + 4, 4096 + 5, 5120 + 512 + 6, 6144 + 7, 7168 + 512 + 8);
    }

    private static void neitherChangesAnything() {
        Check.sentence(15, "Neither call changes anything.");
        for (int at : new int[] {0, 3, 10, 100}) {
            int held = Sets.threeAt(at).getLogCount();
            Check.noTrace("getLogCount()", () -> Sets.threeAt(at), RateMonoKernel::getLogCount, held);
            for (int i : new int[] {-1, 0, held - 1, held, 8}) {
                int due = Sets.threeAt(at).getLogEntry(i);
                Check.noTrace("getLogEntry(" + i + ")", () -> Sets.threeAt(at), x -> x.getLogEntry(i), due);
            }
        }
    }
}
