import java.util.function.Consumer;
import java.util.function.Predicate;
import java.util.function.Supplier;
import java.util.function.ToIntFunction;

/** Prints every answer that is not the one that is due; a test's main method ends with {@link #end()}. */
final class Check {
    private static String sentence = "";
    private static int made = 0;
    private static int wrong = 0;

    private Check() {
    }

    /** The promise, and its words that the answers from here on test. */
    static void sentence(int promise, String words) {
        sentence = "[promise " + promise + ": " + words + "] ";
    }

    /** As above, with the one case of several that is tested. */
    static void sentence(int promise, String words, String which) {
        sentence(promise, words + " | " + which);
    }

    /** As {@link #sentence(int, String)}, for the document's part "What it is". */
    static void opening(String words) {
        sentence = "[what it is: " + words + "] ";
    }

    static void due(String call, long got, long want) {
        made++;
        if (got != want) {
            wrong++;
            System.out.println(sentence + call + " answered " + got + ", due is " + want);
        }
    }

    static void due(String call, boolean got, boolean want) {
        due(call, got ? 1 : 0, want ? 1 : 0);
    }

    static void dueText(String what, String got, String want) {
        made++;
        if (!got.equals(want)) {
            wrong++;
            System.out.println(sentence + what + " was\n  " + got + "\ndue is\n  " + want);
        }
    }

    static void dueField(RateMonoKernel x, int slot, int f, int want) {
        due("getTask(" + slot + ", " + f + ")", x.getTask(slot, f), want);
    }

    /** Fields 0 to 14 of a slot, in the order of their codes; fewer values test the first ones. */
    static void dueTask(RateMonoKernel x, int slot, int... want) {
        for (int f = 0; f < want.length; f++) {
            dueField(x, slot, f, want[f]);
        }
    }

    /** What both phases of {@link RateMonoKernel#getTask} answer for a slot that holds no task. */
    static void dueNoTask(RateMonoKernel x, int slot) {
        for (int f = 0; f <= 14; f++) {
            dueField(x, slot, f, -1);
        }
    }

    static void dueLog(RateMonoKernel x, int... want) {
        due("getLogCount()", x.getLogCount(), want.length);
        for (int i = 0; i < want.length; i++) {
            due("getLogEntry(" + i + ")", x.getLogEntry(i), want[i]);
        }
    }

    /** An object with these tasks (T, D, C, S) in slots 0, 1, .. */
    static RateMonoKernel with(int maxTasks, int logCap, int[][] tasks) {
        RateMonoKernel x = new RateMonoKernel(maxTasks, logCap);
        for (int k = 0; k < tasks.length; k++) {
            int[] a = tasks[k];
            due("admit(" + a[0] + ", " + a[1] + ", " + a[2] + ", " + a[3] + ")", x.admit(a[0], a[1], a[2], a[3]), k);
        }
        return x;
    }

    /** Values on both sides of a range, next to it and far away, some of them within it if cut to 8 or 16 bits. */
    static int[] outside(int low, int high) {
        return new int[] {
            Integer.MIN_VALUE, low - 65536, low - 256, low - 1,
            high + 1, low + 256 > high ? low + 256 : high + 256, high + 65536, Integer.MAX_VALUE,
        };
    }

    /** Runs the call and sees that no answer of the object is another one after it. */
    static void changesNothing(String call, RateMonoKernel x, Consumer<RateMonoKernel> called) {
        String before = picture(x);
        called.accept(x);
        dueText("the state after " + call, picture(x), before);
    }

    /** The call gives this answer, and the object goes on as one that was never called so. */
    static void noTrace(String call, Supplier<RateMonoKernel> maker, ToIntFunction<RateMonoKernel> asked, int want) {
        RateMonoKernel x = maker.get();
        due(call, asked.applyAsInt(x), want);
        dueText("the state after " + call, picture(x), picture(maker.get()));
        // What no answer shows at once may show later.
        dueLater(call, maker, asked, k -> k.run(300));
        dueLater(call, maker, asked, k -> {
            k.admit(250, 250, 1, 1);
            k.remove(0);
            k.start();
            k.run(300);
        });
    }

    /** Nothing else is called between: a fault in that call would hide the one that is looked for. */
    private static void dueLater(String call, Supplier<RateMonoKernel> maker, ToIntFunction<RateMonoKernel> asked,
            Consumer<RateMonoKernel> goOn) {
        RateMonoKernel x = maker.get();
        RateMonoKernel twin = maker.get();
        asked.applyAsInt(x);
        goOn.accept(x);
        goOn.accept(twin);
        dueText("the state some calls after " + call, picture(x), picture(twin));
    }

    /** The call answers false, and the object goes on as one that was never called so. */
    static void refused(String call, Supplier<RateMonoKernel> maker, Predicate<RateMonoKernel> asked) {
        noTrace(call, maker, x -> asked.test(x) ? 1 : 0, 0);
    }

    /** Every answer that an object gives without being changed. */
    static String picture(RateMonoKernel x) {
        StringBuilder text = new StringBuilder();
        text.append("count ").append(x.getTaskCount());
        text.append(" started ").append(x.isStarted());
        text.append(" time ").append(x.getTime());
        text.append(" running ").append(x.getRunning());
        text.append(" idle ").append(x.getIdleTicks());
        text.append(" preemptions ").append(x.getPreemptions());
        text.append(" log");
        for (int i = -1; i <= 33; i++) {
            text.append(' ').append(x.getLogEntry(i));
        }
        text.append(" of ").append(x.getLogCount());
        for (int slot = -1; slot <= 8; slot++) {
            text.append(" slot ").append(slot).append(':');
            for (int f = -1; f <= 15; f++) {
                text.append(' ').append(x.getTask(slot, f));
            }
        }
        return text.toString();
    }

    static void end() {
        System.out.println(wrong == 0 ? "all " + made + " answers are as due" : wrong + " answers are not as due");
        if (wrong != 0) {
            System.exit(1);
        }
    }
}
