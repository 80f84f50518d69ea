/** Objects that several tests begin with. */
final class Sets {
    private Sets() {
    }

    /** Three tasks in order of priority; a fourth slot is free. Once started, task 2 is preempted in tick 10. */
    static RateMonoKernel three() {
        RateMonoKernel x = Check.with(4, 8, new int[][] {{10, 10, 2, 1}, {20, 20, 3, 2}, {40, 40, 4, 3}});
        x.setOffset(2, 8);
        x.setDemand(2, 77);
        return x;
    }

    static RateMonoKernel threeAt(int ticks) {
        RateMonoKernel x = three();
        x.start();
        x.run(ticks);
        return x;
    }

    /** As many tasks as there are slots, each of cost 1. */
    static RateMonoKernel full(int maxTasks) {
        RateMonoKernel x = new RateMonoKernel(maxTasks, 8);
        for (int k = 0; k < maxTasks; k++) {
            Check.due("admit(100, 100, 1, 0)", x.admit(100, 100, 1, 0), k);
        }
        return x;
    }

    /** One task, started. */
    static RateMonoKernel one(int period, int cost) {
        RateMonoKernel x = Check.with(1, 8, new int[][] {{period, period, cost, 0}});
        x.start();
        return x;
    }
}
