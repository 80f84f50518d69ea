/**
 * A small real-time kernel for periodic tasks under fixed priorities, with
 * budgets, deadlines and an admission analysis.
 */
public final class RateMonoKernel {
    public static final int ERR_STARTED = -1;
    public static final int ERR_RANGE = -2;
    public static final int ERR_FULL = -3;
    public static final int ERR_UNSCHEDULABLE = -4;

    public static final int F_PERIOD = 0;
    public static final int F_DEADLINE = 1;
    public static final int F_COST = 2;
    public static final int F_BLOCKING = 3;
    public static final int F_OFFSET = 4;
    public static final int F_DEMAND = 5;
    public static final int F_BOUND = 6;
    public static final int F_BLOCK_TERM = 7;
    public static final int F_RELEASED = 8;
    public static final int F_ENDED = 9;
    public static final int F_OVERRUNS = 10;
    public static final int F_MISSES = 11;
    public static final int F_WORST = 12;
    public static final int F_LAST = 13;
    public static final int F_REMAINING = 14;

    private static final int MIN_TASKS = 1;
    private static final int MAX_TASKS = 8;
    private static final int MIN_LOG = 8;
    private static final int MAX_LOG = 32;
    private static final int MAX_PERIOD = 255;
    private static final int MAX_BLOCKING = 255;
    private static final int MAX_OFFSET = 255;
    private static final int MAX_DEMAND = 1000;
    private static final int MAX_TICKS = 1000;

    private static final int NONE = -1;
    /** No bound is 0: a bound is at least 1. */
    private static final int NO_BOUND = 0;

    private static final int LOG_SLOT_UNIT = 1024;
    private static final int LOG_OVERRUN_PART = 512;

    private final int maxTasks;
    private final int logCap;

    /** A free slot has period 0, so that no free slot can come to a division. */
    private final int[] periodOf = new int[MAX_TASKS];
    private final int[] deadlineOf = new int[MAX_TASKS];
    private final int[] costOf = new int[MAX_TASKS];
    private final int[] blockingOf = new int[MAX_TASKS];
    private final int[] offsetOf = new int[MAX_TASKS];
    private final int[] demandOf = new int[MAX_TASKS];
    private final int[] boundOf = new int[MAX_TASKS];
    private final int[] blockTermOf = new int[MAX_TASKS];

    private final int[] releasedOf = new int[MAX_TASKS];
    private final int[] endedOf = new int[MAX_TASKS];
    private final int[] overrunsOf = new int[MAX_TASKS];
    private final int[] missesOf = new int[MAX_TASKS];
    private final int[] worstOf = new int[MAX_TASKS];
    private final int[] lastOf = new int[MAX_TASKS];

    /** A job gets at least one tick at its release, so 0 means that no job is pending. */
    private final int[] remainingOf = new int[MAX_TASKS];
    private final int[] releaseTimeOf = new int[MAX_TASKS];
    private final boolean[] markedOverrun = new boolean[MAX_TASKS];

    private final int[] log = new int[MAX_LOG];
    private int logCount = 0;

    private boolean started = false;
    private int time = 0;
    private int running = NONE;
    /**
     * The slot of the job that executed in the previous tick, as long as that very
     * job is pending. The running slot can't tell this: its task may by now have a
     * newer job, and only the old one can be preempted.
     */
    private int unfinished = NONE;
    private int idleTicks = 0;
    private int preemptions = 0;

    public RateMonoKernel(int maxTasks, int logCap) {
        this.maxTasks = clamp(maxTasks, MIN_TASKS, MAX_TASKS);
        this.logCap = clamp(logCap, MIN_LOG, MAX_LOG);
    }

    public int admit(int period, int deadline, int cost, int blocking) {
        if (started) {
            return ERR_STARTED;
        }
        if (!isTaskInRange(period, deadline, cost, blocking)) {
            return ERR_RANGE;
        }
        int slot = smallestFreeSlot();
        if (slot == NONE) {
            return ERR_FULL;
        }
        occupy(slot, period, deadline, cost, blocking);
        if (!everyTaskHasBound()) {
            vacate(slot);
            return ERR_UNSCHEDULABLE;
        }
        recomputeAnalysis();
        return slot;
    }

    public boolean remove(int slot) {
        if (started || !isInUse(slot)) {
            return false;
        }
        vacate(slot);
        recomputeAnalysis();
        return true;
    }

    public boolean setOffset(int slot, int offset) {
        if (started || !isInUse(slot) || !isWithin(offset, 0, MAX_OFFSET)) {
            return false;
        }
        offsetOf[slot] = offset;
        return true;
    }

    public boolean setDemand(int slot, int demand) {
        if (!isInUse(slot) || !isWithin(demand, 1, MAX_DEMAND)) {
            return false;
        }
        demandOf[slot] = demand;
        return true;
    }

    public boolean start() {
        if (started) {
            return false;
        }
        started = true;
        return true;
    }

    public int run(int ticks) {
        if (!started) {
            return -1;
        }
        int n = clamp(ticks, 0, MAX_TICKS);
        for (int i = 0; i < n; i++) {
            runOneTick();
        }
        return time;
    }

    public int getTask(int slot, int f) {
        if (!isInUse(slot)) {
            return -1;
        }
        switch (f) {
            case F_PERIOD: return periodOf[slot];
            case F_DEADLINE: return deadlineOf[slot];
            case F_COST: return costOf[slot];
            case F_BLOCKING: return blockingOf[slot];
            case F_OFFSET: return offsetOf[slot];
            case F_DEMAND: return demandOf[slot];
            case F_BOUND: return boundOf[slot];
            case F_BLOCK_TERM: return blockTermOf[slot];
            case F_RELEASED: return releasedOf[slot];
            case F_ENDED: return endedOf[slot];
            case F_OVERRUNS: return overrunsOf[slot];
            case F_MISSES: return missesOf[slot];
            case F_WORST: return worstOf[slot];
            case F_LAST: return lastOf[slot];
            case F_REMAINING: return remainingOf[slot];
            default: return -1;
        }
    }

    public int getTaskCount() {
        int count = 0;
        for (int i = 0; i < maxTasks; i++) {
            if (isInUse(i)) {
                count++;
            }
        }
        return count;
    }

    public boolean isStarted() {
        return started;
    }

    public int getTime() {
        return time;
    }

    public int getRunning() {
        return running;
    }

    public int getIdleTicks() {
        return idleTicks;
    }

    public int getPreemptions() {
        return preemptions;
    }

    public int getLogCount() {
        return logCount;
    }

    public int getLogEntry(int i) {
        if (i < 0 || i >= logCount) {
            return -1;
        }
        return log[i];
    }

    private static int clamp(int value, int low, int high) {
        if (value < low) {
            return low;
        }
        if (value > high) {
            return high;
        }
        return value;
    }

    private static boolean isWithin(int value, int low, int high) {
        return value >= low && value <= high;
    }

    private static boolean isTaskInRange(int period, int deadline, int cost, int blocking) {
        return isWithin(period, 1, MAX_PERIOD)
            && isWithin(deadline, 1, period)
            && isWithin(cost, 1, deadline)
            && isWithin(blocking, 0, MAX_BLOCKING);
    }

    private boolean isInUse(int slot) {
        return slot >= 0 && slot < maxTasks && periodOf[slot] > 0;
    }

    private int smallestFreeSlot() {
        for (int i = 0; i < maxTasks; i++) {
            if (!isInUse(i)) {
                return i;
            }
        }
        return NONE;
    }

    /** The counts need no reset: they are 0 in SETUP, the one phase that calls this. */
    private void occupy(int slot, int period, int deadline, int cost, int blocking) {
        periodOf[slot] = period;
        deadlineOf[slot] = deadline;
        costOf[slot] = cost;
        blockingOf[slot] = blocking;
        offsetOf[slot] = 0;
        demandOf[slot] = cost;
    }

    private void vacate(int slot) {
        periodOf[slot] = 0;
    }

    /** Of two slots in use. */
    private boolean hasHigherPriority(int a, int b) {
        return periodOf[a] < periodOf[b] || (periodOf[a] == periodOf[b] && a < b);
    }

    /** Writes nothing, so that a refused candidate leaves the old bounds as they were. */
    private boolean everyTaskHasBound() {
        for (int i = 0; i < maxTasks; i++) {
            if (isInUse(i)) {
                int term = blockTerm(i);
                int bound = leastBound(i, term);
                if (bound == NO_BOUND) {
                    return false;
                }
            }
        }
        return true;
    }

    private void recomputeAnalysis() {
        for (int i = 0; i < maxTasks; i++) {
            if (isInUse(i)) {
                int term = blockTerm(i);
                blockTermOf[i] = term;
                boundOf[i] = leastBound(i, term);
            }
        }
    }

    private int blockTerm(int task) {
        int greatest = 0;
        for (int j = 0; j < maxTasks; j++) {
            if (isInUse(j) && hasHigherPriority(task, j) && blockingOf[j] > greatest) {
                greatest = blockingOf[j];
            }
        }
        return greatest;
    }

    private int leastBound(int task, int term) {
        int deadline = deadlineOf[task];
        for (int r = 1; r <= deadline; r++) {
            int load = costOf[task] + term + interference(task, r);
            if (load == r) {
                return r;
            }
        }
        return NO_BOUND;
    }

    /** Rounds up: a job released within the window may take its whole cost there. */
    private int interference(int task, int window) {
        int sum = 0;
        for (int j = 0; j < maxTasks; j++) {
            if (isInUse(j) && hasHigherPriority(j, task)) {
                int releases = (window + periodOf[j] - 1) / periodOf[j];
                sum += releases * costOf[j];
            }
        }
        return sum;
    }

    private void runOneTick() {
        releaseDueJobs();
        int picked = highestPendingSlot();
        running = picked;
        if (picked == NONE) {
            idleTicks++;
            time++;
            return;
        }
        if (unfinished != NONE && unfinished != picked) {
            preemptions++;
        }
        executeJob(picked);
    }

    private void executeJob(int slot) {
        remainingOf[slot]--;
        time++;
        unfinished = slot;
        if (remainingOf[slot] == 0) {
            unfinished = NONE;
            endJob(slot);
        }
    }

    private void releaseDueJobs() {
        for (int i = 0; i < maxTasks; i++) {
            if (isInUse(i) && isReleaseDue(i)) {
                if (remainingOf[i] > 0) {
                    dropJob(i);
                }
                releaseJob(i);
            }
        }
    }

    /**
     * Asked anew each tick and not counted down: time wraps as an int does, and
     * while it is below 0 nothing is released.
     */
    private boolean isReleaseDue(int slot) {
        return time >= offsetOf[slot] && (time - offsetOf[slot]) % periodOf[slot] == 0;
    }

    private void dropJob(int slot) {
        missesOf[slot]++;
        if (unfinished == slot) {
            unfinished = NONE;
        }
    }

    private void releaseJob(int slot) {
        boolean overrun = demandOf[slot] > costOf[slot];
        markedOverrun[slot] = overrun;
        remainingOf[slot] = overrun ? costOf[slot] : demandOf[slot];
        releaseTimeOf[slot] = time;
        releasedOf[slot]++;
    }

    private int highestPendingSlot() {
        int best = NONE;
        for (int i = 0; i < maxTasks; i++) {
            if (remainingOf[i] > 0 && (best == NONE || hasHigherPriority(i, best))) {
                best = i;
            }
        }
        return best;
    }

    private void endJob(int slot) {
        int response = time - releaseTimeOf[slot];
        int entry = slot * LOG_SLOT_UNIT + response;
        endedOf[slot]++;
        if (markedOverrun[slot]) {
            overrunsOf[slot]++;
            entry += LOG_OVERRUN_PART;
        }
        if (response > deadlineOf[slot]) {
            missesOf[slot]++;
        }
        lastOf[slot] = response;
        if (response > worstOf[slot]) {
            worstOf[slot] = response;
        }
        appendToLog(entry);
    }

    private void appendToLog(int entry) {
        if (logCount >= logCap) {
            discardOldestEntry();
        }
        log[logCount] = entry;
        logCount++;
    }

    private void discardOldestEntry() {
        for (int i = 1; i < logCount; i++) {
            log[i - 1] = log[i];
        }
        logCount--;
    }
}
