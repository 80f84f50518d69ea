/**
 * Promises 7 and 11 past the greatest int, by calls alone: 2^31 ticks with no task in
 * use, which take some seconds. OutOfReachTest goes there with a task, by setting the clock.
 */
public final class WrapTest {
    private static final String INT_TIME = "Time, the counts and the response arithmetic are Java `int` values";

    public static void main(String[] args) {
        RateMonoKernel x = new RateMonoKernel(1, 8);
        x.start();
        for (int i = 0; i < Integer.MAX_VALUE / 1000; i++) {
            x.run(1000);
        }
        greatestTime(x);
        stepOver(x);
        goesOn(x);
        Check.end();
    }

    private static void greatestTime(RateMonoKernel x) {
        Check.sentence(11, "the number of ticks run since `start()` (as a Java `int`)", "the greatest int");
        int left = Integer.MAX_VALUE % 1000;
        Check.due("run(" + left + ")", x.run(left), Integer.MAX_VALUE);
        Check.due("getTime()", x.getTime(), Integer.MAX_VALUE);
        Check.due("run(0)", x.run(0), Integer.MAX_VALUE);
        Check.due("getIdleTicks()", x.getIdleTicks(), Integer.MAX_VALUE);
    }

    private static void stepOver(RateMonoKernel x) {
        Check.sentence(11, "the number of ticks run since `start()` (as a Java `int`)", "one more");
        Check.due("run(1)", x.run(1), Integer.MIN_VALUE);
        Check.due("getTime()", x.getTime(), Integer.MIN_VALUE);
        Check.sentence(7, INT_TIME, "the idle count");
        Check.due("getIdleTicks()", x.getIdleTicks(), Integer.MIN_VALUE);
    }

    private static void goesOn(RateMonoKernel x) {
        Check.sentence(7, INT_TIME, "time below 0");
        Check.due("run(0)", x.run(0), Integer.MIN_VALUE);
        Check.due("run(1000)", x.run(1000), Integer.MIN_VALUE + 1000);
        Check.due("getIdleTicks()", x.getIdleTicks(), Integer.MIN_VALUE + 1000);
        Check.due("getRunning()", x.getRunning(), -1);
        Check.due("isStarted()", x.isStarted(), true);
    }
}
