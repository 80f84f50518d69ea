import java.io.IOException;
import java.lang.reflect.Field;
import java.lang.reflect.Method;
import java.lang.reflect.Modifier;
import java.nio.file.Files;
import java.nio.file.Path;
import java.util.ArrayList;
import java.util.List;
import java.util.Set;
import java.util.TreeSet;
import java.util.regex.Matcher;
import java.util.regex.Pattern;
import java.util.stream.Collectors;
import java.util.stream.Stream;

/** What README.md says of the class and of the tests. */
public final class ReadmeTest {
    private static final Path README = Path.of("README.md");
    private static final Path TESTS = Path.of("src/test/java");
    private static final String BEGIN = "// the example begins";
    private static final String END = "// the example ends";

    public static void main(String[] args) throws IOException, IllegalAccessException {
        String text = Files.readString(README);
        example();
        exampleIsTheOneThatRan(text);
        everyCallIsNamed(text);
        everyConstantIsNamed(text);
        testsAreTheOnesThatStand(text);
        Check.end();
    }

    private static void example() {
        // the example begins
        RateMonoKernel kernel = new RateMonoKernel(4, 16);  // up to 4 tasks, a log of 16 ended jobs

        int fast = kernel.admit(5, 5, 1, 0);    // period, deadline, cost, blocking; answers the slot: 0
        int slow = kernel.admit(10, 10, 3, 2);  // 1
        int more = kernel.admit(10, 10, 8, 0);  // ERR_UNSCHEDULABLE: there is no room for it
        kernel.setOffset(slow, 1);              // its first release
        kernel.setDemand(slow, 5);              // more than its cost of 3: each job is stopped after 3 ticks

        kernel.start();                         // from here on the set of tasks is fixed
        int time = kernel.run(40);              // 40 ticks; answers the time: 40

        int bound = kernel.getTask(slow, RateMonoKernel.F_BOUND);        // from the analysis: 4
        int overruns = kernel.getTask(slow, RateMonoKernel.F_OVERRUNS);  // from the run: 4

        int newest = kernel.getLogEntry(kernel.getLogCount() - 1);       // the job of fast, released at 35
        int slot = newest / 1024;                                        // 0
        int response = newest % 512;                                     // 1
        boolean stopped = newest / 512 % 2 == 1;                         // false
        // the example ends
        Check.due("README: fast", fast, 0);
        Check.due("README: slow", slow, 1);
        Check.due("README: more", more, RateMonoKernel.ERR_UNSCHEDULABLE);
        Check.due("README: the offset", kernel.getTask(slow, RateMonoKernel.F_OFFSET), 1);
        Check.due("README: the demand", kernel.getTask(slow, RateMonoKernel.F_DEMAND), 5);
        Check.due("README: time", time, 40);
        Check.due("README: bound", bound, 4);
        Check.due("README: overruns", overruns, 4);
        Check.due("README: jobs of fast", kernel.getTask(fast, RateMonoKernel.F_ENDED), 8);
        Check.due("README: newest", newest, 1);
        Check.due("README: slot", slot, 0);
        Check.due("README: response", response, 1);
        Check.due("README: stopped", stopped, false);
    }

    private static void exampleIsTheOneThatRan(String text) throws IOException {
        List<String> ran = new ArrayList<>();
        boolean inside = false;
        for (String line : Files.readAllLines(TESTS.resolve("ReadmeTest.java"))) {
            inside &= !line.strip().equals(END);
            if (inside) {
                ran.add(line.strip());
            }
            inside |= line.strip().equals(BEGIN);
        }
        Matcher block = Pattern.compile("```java\n(.*?)\n```", Pattern.DOTALL).matcher(text);
        Check.dueText("README: the example", block.find() ? block.group(1) : "", String.join("\n", ran));
    }

    private static void everyCallIsNamed(String text) {
        for (Method m : RateMonoKernel.class.getDeclaredMethods()) {
            if (Modifier.isPublic(m.getModifiers())) {
                Matcher row = Pattern.compile("\n\\| `" + m.getName() + "\\(([^)]*)\\)` \\|").matcher(text);
                boolean found = row.find();
                Check.due("README has a row for " + m.getName(), found, true);
                int named = !found || row.group(1).isEmpty() ? 0 : row.group(1).split(",").length;
                Check.due("README: parameters of " + m.getName(), named, m.getParameterCount());
            }
        }
    }

    private static void everyConstantIsNamed(String text) throws IllegalAccessException {
        for (Field f : RateMonoKernel.class.getDeclaredFields()) {
            if (Modifier.isPublic(f.getModifiers())) {
                boolean error = f.getName().startsWith("ERR_");
                String told = "`" + f.getName() + "`" + (error ? " (" + f.getInt(null) + ")" : "");
                Check.due("README names " + told, text.contains(told), true);
            }
        }
    }

    private static void testsAreTheOnesThatStand(String text) throws IOException {
        Set<String> named = new TreeSet<>();
        Matcher row = Pattern.compile("\n\\| `(\\w+Test)` \\|").matcher(text);
        while (row.find()) {
            named.add(row.group(1));
        }
        try (Stream<Path> files = Files.list(TESTS)) {
            Set<String> standing = files.map(file -> file.getFileName().toString())
                .filter(name -> name.endsWith("Test.java"))
                .map(name -> name.replace(".java", ""))
                .collect(Collectors.toCollection(TreeSet::new));
            Check.dueText("README: the tests", named.toString(), standing.toString());
        }
    }
}
