import java.util.function.Consumer;

/** Prints every answer that is not the one that is due; a test's main method ends with {@link #end()}. */
final class Check {
    private static int made = 0;
    private static int wrong = 0;

    private Check() {
    }

    static void due(String call, long got, long want) {
        made++;
        if (got != want) {
            wrong++;
            System.out.println(call + " answered " + got + ", due is " + want);
        }
    }

    static void due(String call, boolean got, boolean want) {
        due(call, got ? 1 : 0, want ? 1 : 0);
    }

    static void dueText(String what, String got, String want) {
        made++;
        if (!got.equals(want)) {
            wrong++;
            System.out.println(what + " was\n  " + got + "\ndue is\n  " + want);
        }
    }

    static void dueField(RateMonoKernel x, int slot, int f, int want) {
        due("getTask(" + slot + ", " + f + ")", x.getTask(slot, f), want);
    }

    /** Fields 0 to 14 of a slot, in the order of their codes. */
    static void dueTask(RateMonoKernel x, int slot, int... want) {
        for (int f = 0; f < want.length; f++) {
            dueField(x, slot, f, want[f]);
        }
    }

    static void dueLog(RateMonoKernel x, int... want) {
        due("getLogCount()", x.getLogCount(), want.length);
        for (int i = 0; i < want.length; i++) {
            due("getLogEntry(" + i + ")", x.getLogEntry(i), want[i]);
        }
    }

    /** Runs the call and sees that no answer of the object is another one after it. */
    static void changesNothing(String call, RateMonoKernel x, Consumer<RateMonoKernel> made) {
        String before = picture(x);
        made.accept(x);
        dueText("the state after " + call, picture(x), before);
    }

    /** Every answer that an object gives without being changed. */
    static String picture(RateMonoKernel x) {
        StringBuilder text = new StringBuilder();
        text.append("count ").append(x.getTaskCount());
        text.append(" started ").append(x.isStarted());
        text.append(" time ").append(x.getTime());
        text.append(" running ").append(x.getRunning());
        text.append(" idle ").append(x.getIdleTicks());
        text.append(" preemptions ").append(x.getPreemptions());
        text.append(" log");
        for (int i = -1; i <= 33; i++) {
            text.append(' ').append(x.getLogEntry(i));
        }
        text.append(" of ").append(x.getLogCount());
        for (int slot = -1; slot <= 8; slot++) {
            text.append(" slot ").append(slot).append(':');
            for (int f = -1; f <= 15; f++) {
                text.append(' ').append(x.getTask(slot, f));
            }
        }
        return text.toString();
    }

    static void end() {
        System.out.println(wrong == 0 ? "all " + made + " answers are as due" : wrong + " answers are not as due");
        if (wrong != 0) {
            System.exit(1);
        }
    }
}
