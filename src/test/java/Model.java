import java.util.ArrayList;
import java.util.Comparator;
import java.util.List;

/**
 * The document said a second time, with objects and lists in place of arrays and
 * with a fixed-point iteration in place of a search, to be compared with the class.
 */
final class Model {
    private static final class Job {
        final Task task;
        final int released;
        final boolean overrun;
        int remaining;

        Job(Task task, int released) {
            this.task = task;
            this.released = released;
            this.overrun = task.demand > task.c;
            this.remaining = Math.min(task.demand, task.c);
        }
    }

    private static final class Task {
        final int slot;
        final int t;
        final int d;
        final int c;
        final int s;
        int offset = 0;
        int demand;
        int bound;
        int term;
        int released = 0;
        int ended = 0;
        int overruns = 0;
        int misses = 0;
        int worst = 0;
        int last = 0;
        Job job = null;

        Task(int slot, int t, int d, int c, int s) {
            this.slot = slot;
            this.t = t;
            this.d = d;
            this.c = c;
            this.s = s;
            this.demand = c;
        }
    }

    private static final Comparator<Task> PRIORITY =
        Comparator.<Task>comparingInt(a -> a.t).thenComparingInt(a -> a.slot);

    private final int maxTasks;
    private final int logCap;
    private final List<Task> tasks = new ArrayList<>();
    private final List<Integer> log = new ArrayList<>();
    private Job previous = null;
    private boolean started = false;
    private int time = 0;
    private int running = -1;
    private int idle = 0;
    private int preemptions = 0;

    Model(int maxTasks, int logCap) {
        this.maxTasks = Math.max(1, Math.min(8, maxTasks));
        this.logCap = Math.max(8, Math.min(32, logCap));
    }

    private Task at(int slot) {
        return tasks.stream().filter(a -> a.slot == slot).findAny().orElse(null);
    }

    private static int term(List<Task> sorted, int i) {
        return sorted.stream().skip(i + 1L).mapToInt(a -> a.s).max().orElse(0);
    }

    /** 0 if there is no bound. */
    private static int bound(List<Task> sorted, int i) {
        Task own = sorted.get(i);
        int r = 0;
        int next = own.c + term(sorted, i);
        while (next != r && next <= own.d) {
            r = next;
            next = own.c + term(sorted, i);
            for (Task above : sorted.subList(0, i)) {
                next += (int) Math.ceil(r / (double) above.t) * above.c;
            }
        }
        return next <= own.d ? r : 0;
    }

    private static boolean passes(List<Task> set) {
        List<Task> sorted = new ArrayList<>(set);
        sorted.sort(PRIORITY);
        for (int i = 0; i < sorted.size(); i++) {
            if (bound(sorted, i) == 0) {
                return false;
            }
        }
        return true;
    }

    private void analyse() {
        tasks.sort(PRIORITY);
        for (int i = 0; i < tasks.size(); i++) {
            tasks.get(i).term = term(tasks, i);
            tasks.get(i).bound = bound(tasks, i);
        }
    }

    int admit(int t, int d, int c, int s) {
        if (started) {
            return -1;
        }
        if (t < 1 || t > 255 || d < 1 || d > t || c < 1 || c > d || s < 0 || s > 255) {
            return -2;
        }
        int slot = 0;
        while (at(slot) != null) {
            slot++;
        }
        if (slot >= maxTasks) {
            return -3;
        }
        List<Task> set = new ArrayList<>(tasks);
        set.add(new Task(slot, t, d, c, s));
        if (!passes(set)) {
            return -4;
        }
        tasks.clear();
        tasks.addAll(set);
        analyse();
        return slot;
    }

    boolean remove(int slot) {
        if (started || at(slot) == null) {
            return false;
        }
        tasks.remove(at(slot));
        analyse();
        return true;
    }

    boolean setOffset(int slot, int offset) {
        if (started || at(slot) == null || offset < 0 || offset > 255) {
            return false;
        }
        at(slot).offset = offset;
        return true;
    }

    boolean setDemand(int slot, int demand) {
        if (at(slot) == null || demand < 1 || demand > 1000) {
            return false;
        }
        at(slot).demand = demand;
        return true;
    }

    boolean start() {
        boolean first = !started;
        started = true;
        return first;
    }

    int run(int ticks) {
        if (!started) {
            return -1;
        }
        for (int n = Math.max(0, Math.min(1000, ticks)); n > 0; n--) {
            tick();
        }
        return time;
    }

    private void tick() {
        for (Task a : tasks) {
            if (time >= a.offset && (time - a.offset) % a.t == 0) {
                if (a.job != null) {
                    a.misses++;
                }
                a.job = new Job(a, time);
                a.released++;
            }
        }
        Job picked = tasks.stream().filter(a -> a.job != null).min(PRIORITY).map(a -> a.job).orElse(null);
        time++;
        if (picked == null) {
            idle++;
            running = -1;
            previous = null;
            return;
        }
        if (previous != null && previous.task.job == previous && previous != picked) {
            preemptions++;
        }
        previous = picked;
        running = picked.task.slot;
        picked.remaining--;
        if (picked.remaining == 0) {
            end(picked);
        }
    }

    private void end(Job job) {
        Task a = job.task;
        int r = time - job.released;
        a.ended++;
        a.overruns += job.overrun ? 1 : 0;
        a.misses += r > a.d ? 1 : 0;
        a.last = r;
        a.worst = Math.max(a.worst, r);
        a.job = null;
        log.add(a.slot * 1024 + (job.overrun ? 512 : 0) + r);
        if (log.size() > logCap) {
            log.remove(0);
        }
    }

    private int getTask(int slot, int f) {
        Task a = at(slot);
        if (a == null || f < 0 || f > 14) {
            return -1;
        }
        int[] values = {
            a.t, a.d, a.c, a.s, a.offset, a.demand, a.bound, a.term, a.released, a.ended,
            a.overruns, a.misses, a.worst, a.last, a.job == null ? 0 : a.job.remaining,
        };
        return values[f];
    }

    /** In the words of {@link Check#picture}. */
    String picture() {
        StringBuilder text = new StringBuilder("count " + tasks.size() + " started " + started + " time " + time
            + " running " + running + " idle " + idle + " preemptions " + preemptions + " log");
        for (int i = -1; i <= 33; i++) {
            text.append(' ').append(i >= 0 && i < log.size() ? log.get(i) : -1);
        }
        text.append(" of ").append(log.size());
        for (int slot = -1; slot <= 8; slot++) {
            text.append(" slot ").append(slot).append(':');
            for (int f = -1; f <= 15; f++) {
                text.append(' ').append(getTask(slot, f));
            }
        }
        return text.toString();
    }
}
