import java.util.Random;

/** All promises: runs of drawn calls, the same each time, on the class and on the model. */
public final class ModelTest {
    private static final int RUNS = 3000;
    private static final int CALLS = 60;

    private static int admitted = 0;
    private static int unschedulable = 0;
    private static int preempted = 0;

    public static void main(String[] args) {
        for (int seed = 0; seed < RUNS; seed++) {
            compare(seed);
        }
        // Without these the runs would say little.
        Check.due("many tasks were admitted", admitted > RUNS, true);
        Check.due("many were unschedulable", unschedulable > RUNS, true);
        Check.due("many jobs were preempted", preempted > RUNS, true);
        Check.end();
    }

    private static void compare(int seed) {
        Random draw = new Random(seed);
        int maxTasks = draw.nextInt(11) - 1;
        int logCap = draw.nextInt(40) - 2;
        RateMonoKernel x = new RateMonoKernel(maxTasks, logCap);
        Model m = new Model(maxTasks, logCap);
        String run = "run " + seed + ", ";
        for (int i = 0; i < CALLS; i++) {
            oneCall(run + "call " + i + ": ", draw, i, x, m);
            Check.dueText(run + "the state after call " + i, Check.picture(x), m.picture());
        }
        preempted += x.getPreemptions();
    }

    private static void oneCall(String where, Random draw, int i, RateMonoKernel x, Model m) {
        int slot = draw.nextInt(20) == 0 ? draw.nextInt() : draw.nextInt(10) - 1;
        int kind = draw.nextInt(100);
        if (i == CALLS / 2) {
            Check.due(where + "start()", x.start(), m.start());
        } else if (x.isStarted() ? kind < 5 : kind < 60) {
            admit(where, draw, x, m);
        } else if (kind < 70) {
            Check.due(where + "remove(" + slot + ")", x.remove(slot), m.remove(slot));
        } else if (kind < 78) {
            int offset = edgy(draw, 0, 255);
            Check.due(where + "setOffset(" + slot + ", " + offset + ")", x.setOffset(slot, offset), m.setOffset(slot, offset));
        } else if (kind < 88) {
            int demand = draw.nextBoolean() ? edgy(draw, 1, 30) : edgy(draw, 1, 1000);
            Check.due(where + "setDemand(" + slot + ", " + demand + ")", x.setDemand(slot, demand), m.setDemand(slot, demand));
        } else if (kind == 88) {
            Check.due(where + "start()", x.start(), m.start());
        } else {
            int ticks = draw.nextInt(4) == 0 ? edgy(draw, 0, 1000) : draw.nextInt(40);
            Check.due(where + "run(" + ticks + ")", x.run(ticks), m.run(ticks));
        }
    }

    private static void admit(String where, Random draw, RateMonoKernel x, Model m) {
        int t = edgy(draw, 1, draw.nextBoolean() ? 40 : 255);
        int d = draw.nextInt(3) == 0 ? edgy(draw, 1, t) : t;
        int c = edgy(draw, 1, Math.max(1, d / (1 + draw.nextInt(8))));
        int s = draw.nextInt(3) == 0 ? edgy(draw, 0, draw.nextInt(5) == 0 ? 255 : 20) : 0;
        int answer = x.admit(t, d, c, s);
        Check.due(where + "admit(" + t + ", " + d + ", " + c + ", " + s + ")", answer, m.admit(t, d, c, s));
        admitted += answer >= 0 ? 1 : 0;
        unschedulable += answer == RateMonoKernel.ERR_UNSCHEDULABLE ? 1 : 0;
    }

    /** Mostly within the range, at times at its edges, just outside, or anywhere. */
    private static int edgy(Random draw, int low, int high) {
        switch (draw.nextInt(40)) {
            case 0: return low - 1;
            case 1: return low;
            case 2: return high;
            case 3: return high + 1;
            case 4: return draw.nextInt();
            default: return high < low ? low : low + draw.nextInt(high - low + 1);
        }
    }
}
